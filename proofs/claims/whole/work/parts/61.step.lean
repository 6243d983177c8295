def dgr (G w : Nat) : Nat → Int := fun g => if g < G then ((dg G w g : Nat) : Int) else 0
theorem dgr_rg (G w : Nat) : ∀ i, 0 ≤ dgr G w i ∧ dgr G w i ≤ 4 := by
  intro i
  unfold dgr
  have := dg_lt G w i
  split <;> omega
theorem mkv_c {side set : Int} {kd gp gp' : Nat → Int} {n : Nat} {p : Int} (h : ∀ g : Nat, g + 1 < n → gp g = gp' g) : mkv side set kd gp n p = mkv side set kd gp' n p := by
  have e := seen_congr (side := side) (set := set) (kd := kd) (kd' := kd) (gp := gp) (gp' := gp') (p := p) (n := n) (fun _ _ => rfl) h
  unfold mkv
  rw [e]
  split
  · rfl
  · rename_i q
    rcases seen_rg side set kd gp' p n with z | ⟨z1, z2, -⟩
    · omega
    · rw [sm_congr (f := gp) (g := gp') (fun k hk => h k (by omega))]
theorem Laid_pre {σ σ' : GS} {set : Int} {gp gp' : Nat → Int} {m M : Nat} (h : Laid σ set gp M) (hm : m ≤ M) (hM : M ≤ 6) (e : ∀ c, c = 10 ∨ c = 4 ∨ (12 ≤ c ∧ c ≤ 19) → σ' c = σ c) (hg : ∀ k : Nat, k + 1 < m → gp k = gp' k) : Laid σ' set gp' m := by
  refine ⟨fun b hb => ?_, fun b hb p hp => ?_⟩
  · rw [e 19 (by omega), h.1 b (by omega)]
    exact sm_congr (fun k hk => hg k (by omega))
  · rw [e (12 + b) (by omega), e 10 (by omega), e 4 (by omega), h.2 b (by omega) p hp]
    exact mkv_c (fun g hg2 => hg g (by omega))
theorem s_X7_step {σ : GS} {G w : Nat} {Post : Int → GS → Prop} (hn : FanR σ) (hG : G = (σ 3 2 - 1).toNat) (h9 : σ 9 = dgr G w) (hw : w < 5 ^ G) (hv : vld (σ 4) G w) (lv : LV σ 63 (σ 9))
    (p1 : ∀ w' σ', w < w' → w' < 5 ^ G → vld (σ 4) G w' → (∀ w2, w < w2 → w2 < w' → ¬ vld (σ 4) G w2) → sc9 σ σ' → σ' 9 = dgr G w' → LV σ' 63 (σ' 9) → σ' 10 3 = σ 10 3 → Post 1 σ')
    (p0 : (∀ w2, w < w2 → w2 < 5 ^ G → ¬ vld (σ 4) G w2) → ∀ σ', sc9 σ σ' → Post 0 σ') : vc_X7_step σ Post := by
  unfold vc_X7_step vc_X1_size
  have h6 := hn.1
  refine ⟨fun m v σ2 => ∃ t : Nat, t ≤ G ∧ m = t ∧ v = σ 3 2 - 2 - ((G - t : Nat) : Int) ∧ (∀ c, c ≠ 9 → σ2 c = σ c) ∧ σ2 9 = (fun j => if j < t then dgr G w j else 0) ∧ maxd (σ 4) G w t, ⟨G, G, Nat.le_refl G, rfl, by omega, fun _ _ => rfl, ?_, fun j h1 h2 => absurd h1 (by omega)⟩, ?_⟩
  · rw [h9]
    funext j
    unfold dgr
    by_cases c : j < G
    · rw [if_pos c, if_pos c]
    · rw [if_neg c, if_neg c]
  rintro m v σ2 ⟨t, q1, rfl, rfl, q3, q4, q5⟩
  have f3 := q3 3 (by decide)
  have f4 := q3 4 (by decide)
  have tail : ∀ i : Nat, 5 ≤ i → σ2 9 i = σ 9 i := fun i hi => by
    rw [q4, h9]
    unfold dgr
    dsimp only
    rw [if_neg (show ¬ i < m by omega), if_neg (by omega)]
  refine ⟨by omega, fun h => p0 (fun w2 a1 a2 a3 => ?_) σ2 ⟨fun c c1 _ _ => q3 c c1, tail⟩, fun h => ?_⟩
  · have e : m = 0 := by omega
    subst e
    have := no_after a2 a3 q5
    omega
  · obtain ⟨g, hg⟩ : ∃ g, m = g + 1 := ⟨m - 1, by omega⟩
    subst hg
    have ev : σ 3 2 - 2 - ((G - (g + 1) : Nat) : Int) = (g : Int) := by omega
    rw [ev]
    have hn2 : FanR σ2 := by unfold FanR; rw [f3, f4]; exact hn
    have hg2 : GR σ2 9 := by
      intro i
      rw [q4]
      show 0 ≤ (if i < g + 1 then dgr G w i else 0) ∧ (if i < g + 1 then dgr G w i else 0) ≤ 4
      have := dgr_rg G w i
      split <;> omega
    have d9 : σ2 9 g = ((dg G w g : Nat) : Int) := by
      rw [q4]
      show (if g < g + 1 then dgr G w g else 0) = _
      unfold dgr
      rw [if_pos (by omega), if_pos (by omega)]
    have hd := dg_lt G w g
    refine s_X2_widen (Or.inr rfl) hn2 hg2 (by omega) (fun c => ⟨by decide, fun z => absurd z (by decide), fun _ => ?_⟩) (fun c => ⟨by decide, fun _ => s_X2_close (Or.inr rfl) (by omega) ⟨g, by omega, g, by omega, rfl, by omega, fun c hc => ?_, ?_, fun j j1 j2 => ?_⟩, fun z => absurd rfl z⟩)
    · have c1 := c.1.2.2
      have c2 := c.2
      rw [Int.toNat_natCast] at c1 c2
      have c2 : σ2 9 g < 4 := c2
      rw [f4] at c1
      rw [d9] at c2
      have q : dg G w g < 4 := by omega
      have gG : g < G := by omega
      have hm : G - 1 - g < G := by omega
      rw [Int.toNat_natCast, show (σ2 (8 + 1) g) = ((dg G w g : Nat) : Int) from d9, show (g : Int) + 1 = ((g + 1 : Nat) : Int) by omega]
      have x : ∀ c, c ≠ 9 → up2 σ2 (8 + 1) g (((dg G w g : Nat) : Int) + 1) c = σ c := fun c hc => by rw [up2_n _ _ _ hc, q3 c hc]
      have x9' : up2 σ2 (8 + 1) g (((dg G w g : Nat) : Int) + 1) 9 = dgr G (nxw w (G - 1 - g)) := by
        rw [show 8 + 1 = 9 from rfl, up2_s, q4]
        funext j
        unfold dgr up1
        dsimp only
        by_cases j1 : j < G
        · have eR : (if j < G then ((dg G (nxw w (G - 1 - g)) j : Nat) : Int) else 0) = ((if j < g then dg G w j else if j = g then dg G w g + 1 else 0 : Nat) : Int) := by rw [if_pos j1, dg_nxw gG q j j1]
          rw [eR]
          by_cases j2 : j = g
          · rw [if_pos j2, j2, if_neg (by omega), if_pos rfl]; omega
          · rw [if_neg j2]
            by_cases j3 : j < g
            · rw [if_pos (show j < g + 1 by omega), if_pos j1, if_pos j3]
            · rw [if_neg (show ¬ j < g + 1 by omega), if_neg j3, if_neg j2]; rfl
        · rw [if_neg (show ¬ j = g by omega), if_neg (show ¬ j < g + 1 by omega), if_neg j1]
      generalize up2 σ2 (8 + 1) g (((dg G w g : Nat) : Int) + 1) = σ5 at x x9'
      have y9 : σ5 (8 + 1) = dgr G (nxw w (G - 1 - g)) := x9'
      have hn5 : FanR σ5 := by unfold FanR; rw [x 3 (by decide), x 4 (by decide)]; exact hn
      refine s_X6_layFrom (Or.inr rfl) hn5 (by rw [x 10 (by decide)]; exact lv.2.1) (by unfold GR; rw [y9]; exact dgr_rg _ _) (by decide) (by rw [x 3 (by decide)]; omega) ?_ (fun σ6 a1 a2 a3 a4 => ?_)
      · rw [y9]
        refine Laid_pre lv.2.2.2.2 (by omega) (by omega) (fun c hc => x c (by omega)) (fun k hk => ?_)
        rw [h9]
        unfold dgr
        rw [if_pos (by omega), if_pos (by omega), dg_nxw gG q k (by omega), if_pos (by omega)]
      · have z9 : σ6 9 = dgr G (nxw w (G - 1 - g)) := by rw [a1 9 (by decide) (by omega), x9']
        have z3 : σ6 3 = σ 3 := by rw [a1 3 (by decide) (by omega), x 3 (by decide)]
        have z4 : σ6 4 = σ 4 := by rw [a1 4 (by decide) (by omega), x 4 (by decide)]
        have z10 : σ6 10 3 = σ 10 3 := by rw [a2, x 10 (by decide)]
        refine p1 (nxw w (G - 1 - g)) σ6 (nxw_gt _ _) (nxw_lt hw hm q) (nx_valid hv gG q c1) (fun w2 b1 b2 => nx_none hv q5 gG hw q b1 b2) ⟨fun c c1 c2 c3 => ?_, fun i hi => ?_⟩ z9 ⟨?_, ?_, ?_, ?_, ?_⟩ z10
        · rw [a1 c c2 c3, x c c1]
        · rw [z9, h9]
          unfold dgr
          rw [if_neg (by omega), if_neg (by omega)]
        · unfold FanR; rw [z3, z4]; exact hn
        · rw [z10]; exact lv.2.1
        · rw [a3, x 3 (by decide), z3]
        · rw [z9]; exact dgr_rg _ _
        · rw [z9, z3]
          rw [y9, x 3 (by decide)] at a4
          exact a4
    · rw [up2_n _ _ _ hc]; exact q3 c hc
    · rw [show 8 + 1 = 9 from rfl, up2_s, q4, Int.toNat_natCast]
      funext j
      unfold up1
      dsimp only
      by_cases e : j = g
      · rw [if_pos e, if_neg (by omega)]
      · rw [if_neg e]
        by_cases d : j < g
        · rw [if_pos (by omega), if_pos d]
        · rw [if_neg (by omega), if_neg d]
    · by_cases e : j = g
      · subst e
        by_cases k3 : σ 4 j = 3
        · exact Or.inl k3
        · refine Or.inr ?_
          by_cases d4 : dg G w j = 4
          · exact d4
          · refine absurd ⟨⟨by omega, by rw [f3]; omega, by rw [Int.toNat_natCast, f4]; exact k3⟩, ?_⟩ c
            rw [Int.toNat_natCast]
            show σ2 9 j < 4
            rw [d9]
            omega
      · exact q5 j (by omega) j2
