theorem yst_c {σ σ' : GS} (h3 : σ' 3 = σ 3) (h4 : σ' 4 = σ 4) (k : Int) (f : Nat → Int) : yst σ' k f = yst σ k f := by
  unfold yst
  rw [jw1_c h3 h4, jw2_c h3 h4, jw3_c h3 h4]
theorem yF_c {σ σ' : GS} (h3 : σ' 3 = σ 3) (h4 : σ' 4 = σ 4) (s : Int) (f : Nat → Int) : ∀ n, yF σ' s f n = yF σ s f n
  | 0 => rfl
  | n + 1 => by
      unfold yF
      rw [yF_c h3 h4 s f n, yst_c h3 h4]
theorem yT_c {σ σ' : GS} (h3 : σ' 3 = σ 3) (h4 : σ' 4 = σ 4) (s : Int) (f : Nat → Int) : ∀ n, yT σ' s f n = yT σ s f n
  | 0 => rfl
  | n + 1 => by
      unfold yT
      rw [yT_c h3 h4 s f n, yF_c h3 h4, wF_c h3 h4]
theorem on5.tr {f g h : Nat → Int} (a : on5 f g) (b : on5 g h) : on5 f h := fun i hi => (a i hi).trans (b i hi)
theorem jw1_on {σ : GS} (hn : FanR σ) {a : Int} {f g : Nat → Int} (h : on5 f g) : on5 (jw1 σ a f) (jw1 σ a g) := by
  intro i hi
  unfold jw1
  have e : jc1 σ a f ↔ jc1 σ a g := by
    unfold jc1
    refine ⟨fun q => ⟨q.1, ?_⟩, fun q => ⟨q.1, ?_⟩⟩ <;> have := fre_lt hn q.1
    · rw [← h a.toNat (by omega)]; exact q.2
    · rw [h a.toNat (by omega)]; exact q.2
  rw [h i hi]
  by_cases c : (i : Int) = a ∧ jc1 σ a f
  · rw [if_pos c, if_pos ⟨c.1, e.mp c.2⟩]
  · rw [if_neg c, if_neg (fun q => c ⟨q.1, e.mpr q.2⟩)]
/-- what the years leave of the world -/
def frX (σ σ' : GS) : Prop := (∀ c, c ≠ 0 → c ≠ 9 → c ≠ 10 → ¬ (13 ≤ c ∧ c ≤ 19) → σ' c = σ c) ∧ ∀ i : Nat, 5 ≤ i → σ' 9 i = σ 9 i
theorem s_X9_years {σ : GS} {n : Nat} {Post : Int → GS → Prop} (hI : Inv σ) (hn : 1 ≤ n ∧ n ≤ 30) (hp : ∀ σ', frX σ σ' → σ' 0 13 = yS (σ 0 13) n → Post (yT σ (σ 0 13) (σ 7) n) σ') : vc_X9_years σ n Post := by
  unfold vc_X9_years
  refine ⟨by omega, fun c => absurd c (by omega), fun c => ⟨fun d => x_copy9 (fun σ1 a1 a2 => ?_), fun d => absurd d (by omega)⟩⟩
  refine ⟨fun m v i σ5 => ∃ k : Nat, k ≤ n ∧ m = n - k ∧ i = k ∧ v = yT σ (σ 0 13) (σ 7) k ∧ frX σ σ5 ∧ σ5 0 13 = yS (σ 0 13) k ∧ on5 (σ5 9) (yF σ (σ 0 13) (σ 7) k), ⟨n, 0, by omega, by omega, rfl, rfl, ⟨fun c _ c1 _ _ => a1.1 c c1, a1.2⟩, by rw [a1.1 0 (by decide)]; rfl, a2⟩, ?_⟩
  rintro m v i σ5 ⟨k, h1, h2, rfl, rfl, f, h3, h4⟩
  refine ⟨by omega, fun h => ?_, fun h => ?_⟩
  · have e : k = n := by omega
    subst e
    exact hp σ5 f h3
  · have hb : ∀ x : Int, 0 ≤ x % 18446744073709551616 / 8589934592 ∧ x % 18446744073709551616 / 8589934592 ≤ 9223372036854775807 := fun x => by omega
    have e13 : up2 σ5 0 13 (σ5 0 13 * 6364136223846793005 + 1442695040888963407) 0 13 = yS (σ 0 13) (k + 1) := by rw [up2_s, up1_s, h3]; rfl
    have x : ∀ c, c ≠ 0 → up2 σ5 0 13 (σ5 0 13 * 6364136223846793005 + 1442695040888963407) c = σ5 c := fun c hc => up2_n _ _ _ hc
    generalize up2 σ5 0 13 (σ5 0 13 * 6364136223846793005 + 1442695040888963407) = σ6 at e13 x
    rw [e13]
    refine ⟨hb _, ?_⟩
    have y3 : σ6 3 = σ 3 := by rw [x 3 (by decide), f.1 3 (by decide) (by decide) (by decide) (by omega)]
    have y4 : σ6 4 = σ 4 := by rw [x 4 (by decide), f.1 4 (by decide) (by decide) (by decide) (by omega)]
    have y9 : σ6 9 = σ5 9 := x 9 (by decide)
    have y12 : σ6 12 = σ 12 := by rw [x 12 (by decide), f.1 12 (by decide) (by decide) (by decide) (by omega)]
    have hV : iV σ6 := by
      unfold iV
      rw [y12, y9]
      exact ⟨hI.V.1, fun i hi => by rw [f.2 i hi]; exact hI.V.2 i hi⟩
    have g50 : g5 (σ 7) := fun g _ => hI.G.1 g
    have hf6 : on5 (σ6 9) (yF σ (σ 0 13) (σ 7) k) := by rw [y9]; exact h4
    have hn6 : FanR σ6 := by unfold FanR; rw [y3, y4]; exact hI.F.1
    refine s_X9_passYear hn6 (gr9 hf6 (yF_5 g50 k) hV) hf6 (yk_rg _) (fun σ7 b1 b2 => ?_)
    have hf7 : on5 (σ7 9) (yF σ (σ 0 13) (σ 7) (k + 1)) := by
      rw [show yF σ (σ 0 13) (σ 7) (k + 1) = yst σ (yk (yS (σ 0 13) (k + 1))) (yF σ (σ 0 13) (σ 7) k) from rfl, ← yst_c y3 y4]
      exact b2
    have hV7 : iV σ7 := by
      unfold iV
      rw [b1.1 12 (by decide)]
      exact ⟨hV.1, fun i hi => by rw [b1.2 i hi]; exact hV.2 i hi⟩
    have hn7 : FanR σ7 := by unfold FanR; rw [b1.1 3 (by decide), b1.1 4 (by decide)]; exact hn6
    refine x_lay8 hn7 (gr9 hf7 (yF_5 g50 (k + 1)) hV7) hV7 (Or.inl rfl) (fun σ8 d1 d2 d3 => ?_)
    have z9 : σ8 9 = σ7 9 := d1 9 (by decide) (by omega)
    refine x_wide d2 d3 (by rw [z9]; exact hf7) ?_
    refine ⟨n - (k + 1), by omega, k + 1, by omega, rfl, rfl, ?_, ⟨fun c c0 c1 c2 c3 => ?_, fun i hi => ?_⟩, ?_, by rw [z9]; exact hf7⟩
    · rw [wF_c (σ := σ) (by rw [d1 3 (by decide) (by omega), b1.1 3 (by decide), y3]) (by rw [d1 4 (by decide) (by omega), b1.1 4 (by decide), y4])]
      rfl
    · rw [d1 c c2 c3, b1.1 c c1, x c c0, f.1 c c0 c1 c2 c3]
    · rw [z9, b1.2 i hi, y9, f.2 i hi]
    · rw [d1 0 (by decide) (by omega), b1.1 0 (by decide), e13]
def frM (σ σ' : GS) : Prop := (∀ c, c ≠ 51 → c ≠ 54 → σ' c = σ c) ∧ (∀ j : Nat, j ≠ 18 → σ' 51 j = σ 51 j) ∧ (∀ g : Nat, g < 5 → σ' 54 g = σ 54 g) ∧ GM σ'
theorem s_X10_years {σ : GS} {n : Nat} {f0 : Nat → Int} {Post : Int → GS → Prop} (hF : iF σ) (hG : GM σ) (h0 : on5 (σ 54) f0) (g50 : g5 f0) (hn : 1 ≤ n ∧ n ≤ 30) (hp : ∀ σ', frM σ σ' → σ' 51 18 = yS (σ 51 18) n → Post (yT σ (σ 51 18) f0 n) σ') : vc_X10_years σ n Post := by
  unfold vc_X10_years
  refine ⟨by omega, s_X10_in (by omega) (by decide) (by decide) (bi_ne (fun _ => m_lay hG (fun σ1 a1 a2 => ?_)) (fun c => absurd c (by omega)))⟩
  refine ⟨fun m v i σ5 => ∃ k : Nat, k ≤ n ∧ m = n - k ∧ i = k ∧ v = yT σ (σ 51 18) f0 k ∧ frM σ σ5 ∧ σ5 51 18 = yS (σ 51 18) k ∧ on5 (gm σ5 1) (yF σ (σ 51 18) f0 k), ⟨n, 0, by omega, by omega, rfl, rfl, ⟨fun c _ c1 => a1.1 c c1, fun j _ => by rw [a1.1 51 (by decide)], a1.2.1, a1.2.2⟩, by rw [a1.1 51 (by decide)]; rfl, on5.tr a2 h0⟩, ?_⟩
  rintro m v i σ5 ⟨k, h1, h2, rfl, rfl, f, h3, h4⟩
  refine ⟨by omega, fun h => ?_, fun h => ?_⟩
  · have e : k = n := by omega
    subst e
    exact hp σ5 f h3
  · have hb : ∀ x : Int, 0 ≤ x % 18446744073709551616 / 8589934592 ∧ x % 18446744073709551616 / 8589934592 ≤ 9223372036854775807 := fun x => by omega
    have e13 : up2 σ5 51 18 (σ5 51 18 * 6364136223846793005 + 1442695040888963407) 51 18 = yS (σ 51 18) (k + 1) := by rw [up2_s, up1_s, h3]; rfl
    have x : ∀ c, c ≠ 51 → up2 σ5 51 18 (σ5 51 18 * 6364136223846793005 + 1442695040888963407) c = σ5 c := fun c hc => up2_n _ _ _ hc
    have x51 : ∀ j, j ≠ 18 → up2 σ5 51 18 (σ5 51 18 * 6364136223846793005 + 1442695040888963407) 51 j = σ5 51 j := fun j hj => by rw [up2_s, up1_n _ _ hj]
    generalize up2 σ5 51 18 (σ5 51 18 * 6364136223846793005 + 1442695040888963407) = σ6 at e13 x x51
    rw [e13]
    have F6 : fr [54] [18] σ σ6 := ⟨fun c hc hd => by rw [x c hc, f.1 c hc (by simpa using hd)], fun j hj => by rw [x51 j (by simpa using hj), f.2.1 j (by simpa using hj)]⟩
    have hF6 := hF.fr F6 (by decide)
    have y54 : σ6 54 = σ5 54 := x 54 (by decide)
    have hG6 : GM σ6 := by unfold GM; rw [y54]; exact f.2.2.2
    have hf6 : on5 (gm σ6 1) (yF σ (σ 51 18) f0 k) := by
      intro g hg
      unfold gm
      rw [y54]
      exact h4 g hg
    have y3 : σ6 3 = σ 3 := F6.1 3 (by decide) (by decide)
    have y4 : σ6 4 = σ 4 := F6.1 4 (by decide) (by decide)
    have fin : ∀ σ7, m5 σ6 σ7 → on5 (gm σ7 1) (yst σ6 (yk (yS (σ 51 18) (k + 1))) (yF σ (σ 51 18) f0 k)) → vc_X10_wide σ7 1 (fun (z15 : Int) => ∃ n' : Nat, n' < m ∧ ∃ k2 : Nat, k2 ≤ n ∧ n' = n - k2 ∧ (k : Int) + 1 = k2 ∧ yT σ (σ 51 18) f0 k + z15 = yT σ (σ 51 18) f0 k2 ∧ frM σ σ7 ∧ σ7 51 18 = yS (σ 51 18) k2 ∧ on5 (gm σ7 1) (yF σ (σ 51 18) f0 k2)) := by
      intro σ7 b1 b2
      have hf7 : on5 (gm σ7 1) (yF σ (σ 51 18) f0 (k + 1)) := by
        rw [show yF σ (σ 51 18) f0 (k + 1) = yst σ (yk (yS (σ 51 18) (k + 1))) (yF σ (σ 51 18) f0 k) from rfl, ← yst_c y3 y4]
        exact b2
      have F7 : fr [54] [18] σ σ7 := ⟨fun c hc hd => by rw [b1.1 c (by simpa using hd)]; exact F6.1 c hc hd, fun j hj => by rw [b1.1 51 (by decide)]; exact F6.2 j hj⟩
      refine m_wide (hF.fr F7 (by decide)) b1.2.2 hf7 ?_
      refine ⟨n - (k + 1), by omega, k + 1, by omega, rfl, rfl, ?_, ⟨fun c c0 c1 => F7.1 c c0 (by simpa using c1), fun j hj => F7.2 j (by simpa using hj), fun g hg => ?_, b1.2.2⟩, ?_, hf7⟩
      · rw [wF_c (σ := σ) (F7.1 3 (by decide) (by decide)) (F7.1 4 (by decide) (by decide))]
        rfl
      · rw [b1.2.1 g hg, y54]; exact f.2.2.1 g hg
      · rw [b1.1 51 (by decide), e13]
    have hk := yk_rg (yS (σ 51 18) (k + 1))
    refine ⟨hb _, ?_⟩
    change rg (yk (yS (σ 51 18) (k + 1))) ∧ ((yk (yS (σ 51 18) (k + 1)) ≤ 13 → ((yk (yS (σ 51 18) (k + 1)) ≤ 9 → ((yk (yS (σ 51 18) (k + 1)) ≤ 4 → _) ∧ (¬ yk (yS (σ 51 18) (k + 1)) ≤ 4 → _))) ∧ (¬ yk (yS (σ 51 18) (k + 1)) ≤ 9 → _))) ∧ (¬ yk (yS (σ 51 18) (k + 1)) ≤ 13 → _))
    unfold yst at fin
    refine ⟨by omega, fun c => ⟨fun d => ⟨fun e => ?_, fun e => ?_⟩, fun d => ?_⟩, fun c => ?_⟩
    · rw [if_pos (by omega)] at fin
      exact m_try1 hF6 hG6 hf6 (by omega) fin
    · rw [if_neg (by omega), if_pos (by omega)] at fin
      exact m_try2 hF6 hG6 hf6 (by omega) fin
    · rw [if_neg (by omega), if_neg (by omega), if_pos (by omega)] at fin
      exact m_fling hF6 hG6 hf6 (fun _ => fin)
    · rw [if_neg (by omega), if_neg (by omega), if_neg (by omega)] at fin
      exact m_snap hG6 fin
theorem q_years {σ : GS} {a0 : Int} {K : Int → Int → GS → Prop} (hI : Inv σ) (h0 : rg a0) (hK : ∀ z σ', rg z → Inv σ' → K z z σ') : vc_X9_years σ a0 (fun z σ1 => vc_X10_years σ1 a0 (fun z' σ2 => K z z' σ2)) := by
  by_cases h : 1 ≤ a0 ∧ a0 ≤ 30
  · obtain ⟨n, rfl⟩ := Int.eq_ofNat_of_zero_le (show 0 ≤ a0 by omega)
    refine s_X9_years hI (by omega) (fun σ1 f e13 => ?_)
    have F1 : fr [0, 9, 10, 13, 14, 15, 16, 17, 18, 19] [] σ σ1 := by
      refine ⟨fun c _ hd => ?_, fun j _ => by rw [f.1 51 (by decide) (by decide) (by decide) (by omega)]⟩
      simp only [List.mem_cons, List.not_mem_nil, or_false, not_or] at hd
      exact f.1 c (by omega) (by omega) (by omega) (by omega)
    have e54 : σ1 54 = σ 54 := F1.1 54 (by decide) (by decide)
    have e51 : σ1 51 = σ 51 := f.1 51 (by decide) (by decide) (by decide) (by omega)
    have g50 : g5 (σ 7) := fun g _ => hI.G.1 g
    refine s_X10_years (f0 := σ 7) (hI.F.fr F1 (by decide)) (by unfold GM; rw [e54]; exact hI.G.2.1) (by rw [e54]; exact hI.G.2.2.1) g50 (by omega) (fun σ2 f2 e18 => ?_)
    rw [yT_c (σ := σ) (F1.1 3 (by decide) (by decide)) (F1.1 4 (by decide) (by decide)), e51, ← show σ 0 13 = σ 51 18 from hI.E]
    have := yT_rg (σ := σ) (s := σ 0 13) (f := σ 7) n
    have F2 : fr [54] [18] σ1 σ2 := ⟨fun c hc hd => f2.1 c hc (by simpa using hd), fun j hj => f2.2.1 j (by simpa using hj)⟩
    refine hK _ _ (by omega) ⟨(hI.T.fr F1 (by decide)).fr F2 (by decide), (hI.F.fr F1 (by decide)).fr F2 (by decide), ?_, (hI.W.fr F1 (by decide)).fr F2 (by decide), (hI.A.fr F1 (by decide)).fr F2 (by decide), (hI.S.fr F1 (by decide)).fr F2 (by decide), (hI.P.fr F1 (by decide)).fr F2 (by decide), ?_, ?_⟩
    · have hg := hI.G.fr F1 (by decide)
      unfold iG GR gz
      rw [F2.1 3 (by decide) (by decide), F2.1 4 (by decide) (by decide), F2.1 7 (by decide) (by decide)]
      exact ⟨hg.1, f2.2.2.2, fun g hg2 => by rw [f2.2.2.1 g hg2]; exact hg.2.2.1 g hg2, hg.2.2.2⟩
    · unfold iE
      rw [e18, F2.1 0 (by decide) (by decide), e13, e51, ← show σ 0 13 = σ 51 18 from hI.E]
    · unfold iV
      rw [F2.1 12 (by decide) (by decide), F2.1 9 (by decide) (by decide), F1.1 12 (by decide) (by decide)]
      exact ⟨hI.V.1, fun i hi => by rw [f.2 i hi]; exact hI.V.2 i hi⟩
  · have M : vc_X10_years σ a0 (fun z' σ2 => K (-2) z' σ2) := by
      unfold vc_X10_years
      exact ⟨h0, s_X10_in (rl h0) (by decide) (by decide) (bi_ne (fun c => absurd c h) (fun _ => hK _ _ (by decide) hI))⟩
    unfold vc_X9_years
    exact ⟨h0, fun _ => M, fun c => ⟨fun d => absurd ⟨by omega, d⟩ h, fun _ => M⟩⟩
