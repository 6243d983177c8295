/-! ===== what is seen: laying ===== -/
theorem mkv_neg {side set : Int} {kd gp : Nat → Int} {n : Nat} {p : Int} (hs0 : 0 ≤ side) : mkv side set kd gp n p < 0 ↔ seen side set kd gp p n < 0 := by
  unfold mkv
  rcases seen_rg side set kd gp p n with h | ⟨h1, h2, h3⟩
  · rw [h]; simp
  · rw [if_neg (by omega)]
    have := h3.1
    omega
theorem mkv_rg {side set : Int} {kd gp : Nat → Int} {n : Nat} {p : Int} (hs0 : 0 ≤ side ∧ side ≤ 1) (hn : n ≤ 6) : -9 ≤ mkv side set kd gp n p ∧ mkv side set kd gp n p ≤ 47 := by
  unfold mkv
  rcases seen_rg side set kd gp p n with h | ⟨h1, h2, h3⟩
  · rw [h]; simp
  · rw [if_neg (by omega)]
    have h4 := h3.1
    have h5 := h3.2.1
    omega
theorem mkv_0 {side set : Int} {kd gp : Nat → Int} {p : Int} : mkv side set kd gp 0 p = -9 := rfl
theorem mkv_pos {side set : Int} {kd gp : Nat → Int} {b : Nat} {p : Int} (h : (hs set b ∧ sol (kd b) (p - sm gp b)) ∧ (side = 0 ∨ seen side set kd gp p b < 0)) : mkv side set kd gp (b + 1) p = (b : Int) * 8 + side * 4 + (p - sm gp b) := by
  unfold mkv
  have e : seen side set kd gp p (b + 1) = b := by simp only [seen]; rw [if_pos h]
  rw [e, if_neg (by omega), Int.toNat_natCast]
theorem mkv_not {side set : Int} {kd gp : Nat → Int} {b : Nat} {p : Int} (h : ¬ ((hs set b ∧ sol (kd b) (p - sm gp b)) ∧ (side = 0 ∨ seen side set kd gp p b < 0))) : mkv side set kd gp (b + 1) p = mkv side set kd gp b p := by
  unfold mkv
  have e : seen side set kd gp p (b + 1) = seen side set kd gp p b := by simp only [seen]; rw [if_neg h]
  rw [e]
/-- only the view's cells differ -/
def vwl (σ σ' : GS) : Prop := ∀ c, c ≠ 10 → ¬ (13 ≤ c ∧ c ≤ 19) → σ' c = σ c
def Laid (σ : GS) (set : Int) (gp : Nat → Int) (m : Nat) : Prop :=
  (∀ b, b < m → σ 19 b = sm gp b) ∧ ∀ b, b ≤ m → ∀ p : Nat, p < 28 → σ (12 + b) p = mkv (σ 10 3) set (σ 4) gp b p
theorem s_X6_liesUpper {σ : GS} {a : Int} {Post : Int → Prop} (h3 : 0 ≤ σ 10 3 ∧ σ 10 3 ≤ 1) (ha : rg a) (hp : Post (bi (σ 10 3 = 0 ∨ a < 0))) : vc_X6_liesUpper σ a Post := by
  unfold vc_X6_liesUpper
  exact ⟨by omega, fun h => pt (by omega) hp, fun h => ⟨ha, fun h2 => pf (by omega) hp, fun h2 => pt (by omega) hp⟩⟩
theorem s_X6_lay {σ : GS} {b : Nat} {set : Int} {gp : Nat → Int} {Post : GS → Prop} (hn : FanR σ) (hside : 0 ≤ σ 10 3 ∧ σ 10 3 ≤ 1) (hb : (b : Int) < σ 3 2) (hset : hs set b) (hg : ∀ i, 0 ≤ gp i ∧ gp i ≤ 4) (h19 : σ 19 b = sm gp b) (hrow : ∀ p : Nat, p < 28 → σ (12 + (b + 1)) p = mkv (σ 10 3) set (σ 4) gp b p)
    (hp : ∀ f : Nat → Int, (∀ p : Nat, p < 28 → f p = mkv (σ 10 3) set (σ 4) gp (b + 1) p) → Post (upR σ (12 + (b + 1)) f)) : vc_X6_lay σ b (12 + (b + 1)) Post := by
  have h0 := hn.1
  have hb6 : b < 6 := by omega
  have hsm := sm_rg hg b
  have hr : lay (12 + (b + 1)) = cA 28 ∧ 12 + (b + 1) < 65 := rb_11 (b + 1) (by omega)
  unfold vc_X6_lay
  refine ⟨hr, fun n v σ' => ∃ (c : Nat) (f : Nat → Int), c ≤ 4 ∧ n = 4 - c ∧ v = c ∧ σ' = upR σ (12 + (b + 1)) f ∧ ∀ p : Nat, p < 28 → f p = if sm gp b ≤ p ∧ (p : Int) < sm gp b + c then mkv (σ 10 3) set (σ 4) gp (b + 1) p else mkv (σ 10 3) set (σ 4) gp b p, ⟨4, 0, σ (12 + (b + 1)), by omega, by omega, rfl, (upR_id σ _).symm, ?_⟩, ?_⟩
  · intro p hpp
    rw [if_neg (by omega)]
    exact hrow p hpp
  · rintro n v σ' ⟨c, f, h1, h2, rfl, rfl, h3⟩
    refine ⟨by omega, fun h => ?_, fun h => ⟨by omega, ?_⟩⟩
    · have e : c = 4 := by omega
      subst e
      refine hp f (fun p hpp => ?_)
      rw [h3 p hpp]
      by_cases hc : sm gp b ≤ (p : Int) ∧ (p : Int) < sm gp b + (4 : Nat)
      · rw [if_pos hc]
      · rw [if_neg hc, mkv_not]
        rintro ⟨⟨-, q1, q2, -⟩, -⟩
        omega
    · have e19 : upR σ (12 + (b + 1)) f 19 = σ 19 := upR_n _ _ (by omega)
      have e3 : upR σ (12 + (b + 1)) f 3 = σ 3 := upR_n _ _ (by omega)
      have e4 : upR σ (12 + (b + 1)) f 4 = σ 4 := upR_n _ _ (by omega)
      have e10 : upR σ (12 + (b + 1)) f 10 = σ 10 := upR_n _ _ (by omega)
      have er : upR σ (12 + (b + 1)) f (12 + (b + 1)) = f := upR_s _ _ _
      have hn' : FanR (upR σ (12 + (b + 1)) f) := ⟨by rw [e3]; exact hn.1, by rw [e4]; exact hn.2⟩
      rw [e19, Int.toNat_natCast, h19]
      obtain ⟨P, hP⟩ := Int.eq_ofNat_of_zero_le (show 0 ≤ sm gp b + (c : Int) by omega)
      have hP28 : P < 28 := by omega
      have hfP : f P = mkv (σ 10 3) set (σ 4) gp b P := by
        rw [h3 P hP28, if_neg (by omega)]
      have hPc : (P : Int) - sm gp b = c := by omega
      have next : ∀ (f' : Nat → Int), (∀ p : Nat, p < 28 → p ≠ P → f' p = f p) → f' P = mkv (σ 10 3) set (σ 4) gp (b + 1) P → ∃ n' : Nat, n' < n ∧ ∃ (c' : Nat) (f2 : Nat → Int), c' ≤ 4 ∧ n' = 4 - c' ∧ ((c : Int) + 1) = c' ∧ upR σ (12 + (b + 1)) f' = upR σ (12 + (b + 1)) f2 ∧ ∀ p : Nat, p < 28 → f2 p = if sm gp b ≤ p ∧ (p : Int) < sm gp b + c' then mkv (σ 10 3) set (σ 4) gp (b + 1) p else mkv (σ 10 3) set (σ 4) gp b p := by
        intro f' q1 q2
        refine ⟨4 - (c + 1), by omega, c + 1, f', by omega, rfl, by omega, rfl, fun p hpp => ?_⟩
        by_cases e : p = P
        · rw [e, q2, if_pos (by omega)]
        · rw [q1 p hpp e, h3 p hpp]
          by_cases q3 : sm gp b ≤ (p : Int) ∧ (p : Int) < sm gp b + (c : Int)
          · rw [if_pos q3, if_pos (by omega)]
          · rw [if_neg q3, if_neg (by omega)]
      have same : ¬ ((hs set b ∧ sol (σ 4 b) ((P : Int) - sm gp b)) ∧ (σ 10 3 = 0 ∨ seen (σ 10 3) set (σ 4) gp P b < 0)) → f P = mkv (σ 10 3) set (σ 4) gp (b + 1) P := by
        intro q
        rw [hfP, mkv_not q]
      refine s_X9_isPlace (by omega) (bi_eq (fun q => by omega) (fun _ => ?_))
      refine s_X1_isSolid hn' (by omega) (by omega) (bi_eq (fun q => ?_) (fun q => ⟨by omega, ?_⟩))
      · rw [e3, e4, Int.toNat_natCast] at q
        exact next f (fun _ _ _ => rfl) (same (fun q2 => q ⟨by omega, by rw [← hPc]; exact q2.1.2⟩))
      · rw [e3, e4, Int.toNat_natCast] at q
        have qs : sol (σ 4 b) ((P : Int) - sm gp b) := by rw [hPc]; exact q.2
        rw [er, show (sm gp b + (c : Int)).toNat = P by omega, hfP]
        have hm := mkv_rg (set := set) (kd := σ 4) (gp := gp) (n := b) (p := P) hside (by omega)
        refine s_X6_liesUpper (by rw [e10]; exact hside) (by omega) (bi_eq (fun u => ?_) (fun u => ?_))
        · rw [e10, mkv_neg hside.1] at u
          exact next f (fun _ _ _ => rfl) (same (fun q2 => u q2.2))
        · rw [e10, mkv_neg hside.1] at u
          show ∃ n' : Nat, _
          rw [e10, up2_upR]
          refine next _ (fun p _ q2 => up1_n _ _ q2) ?_
          rw [up1_s, mkv_pos ⟨⟨hset, qs⟩, u⟩, hPc]
theorem s_X6_layFrom {σ : GS} {k f : Nat} {set : Int} {Post : GS → Prop} (hk : k = 6 ∨ k = 8) (hn : FanR σ) (hside : 0 ≤ σ 10 3 ∧ σ 10 3 ≤ 1) (hg : GR σ (k + 1)) (hset : 0 ≤ set ∧ set ≤ 63) (hf : (f : Int) ≤ σ 3 2) (hl : Laid σ set (σ (k + 1)) f)
    (hp : ∀ σ', vwl σ σ' → σ' 10 3 = σ 10 3 → σ' 10 4 = σ 3 2 → Laid σ' set (σ (k + 1)) (σ 3 2).toNat → Post σ') : vc_X6_layFrom σ f k set Post := by
  have h0 := hn.1
  obtain ⟨N, hN⟩ := Int.eq_ofNat_of_zero_le h0.1
  unfold vc_X6_layFrom vc_X1_size
  refine ⟨hk, by omega, fun n v σ' => ∃ i : Nat, i ≤ N ∧ n = 6 - i ∧ v = i ∧ vwl σ σ' ∧ σ' 10 3 = σ 10 3 ∧ σ' 10 4 = σ 3 2 ∧ Laid σ' set (σ (k + 1)) i, ⟨6 - f, f, by omega, by omega, by omega, ?_, ?_, ?_, ?_⟩, ?_⟩
  · intro c h1 _
    exact up2_n _ _ _ h1
  · rw [up2_s, up1_n _ _ (by decide)]
  · rw [up2_s, up1_s]
  · refine ⟨fun b hb => ?_, fun b hb p hpp => ?_⟩
    · rw [up2_n _ _ _ (by decide)]
      exact hl.1 b hb
    · rw [up2_n _ _ _ (by omega), up2_s, up1_n _ _ (by decide), up2_n _ _ _ (by decide)]
      exact hl.2 b hb p hpp
  · rintro n v σ3 ⟨i, h1, h2, rfl, hv, hs3, hs4, hL⟩
    refine ⟨by omega, by omega, fun h => ?_, fun h => ⟨fun h3 => by omega, fun h3 => ?_⟩⟩
    · have e : i = N := by omega
      subst e
      refine hp σ3 hv hs3 hs4 ?_
      rw [hN]
      exact hL
    · have v3 : σ3 3 = σ 3 := hv 3 (by decide) (by omega)
      have v4 : σ3 4 = σ 4 := hv 4 (by decide) (by omega)
      have vk : σ3 (k + 1) = σ (k + 1) := hv (k + 1) (by omega) (by omega)
      have hbit : (0 ≤ set ∧ set ≤ 2147483647) ∧ (0 ≤ (i : Int) ∧ (i : Int) < 32) := by omega
      have hrgb : rg (set / 2 ^ i % 2) := by
        have b1 := Int.emod_nonneg (set / 2 ^ i) (b := 2) (by decide)
        have b2 := Int.emod_lt_of_pos (set / 2 ^ i) (b := 2) (by decide)
        omega
      -- the state behind the copy
      have body : ∀ σ4 : GS, (∀ c, c ≠ 19 → σ4 c = σ3 c) → (∀ b, b ≠ i → σ4 19 b = σ3 19 b) → σ4 19 i = sm (σ (k + 1)) i →
          (rg (set / 2 ^ i % 2)) ∧ ((¬ (set / 2 ^ i % 2) = 1 → (∃ n' : Nat, n' < n ∧ ∃ i' : Nat, i' ≤ N ∧ n' = 6 - i' ∧ ((i : Int) + 1) = i' ∧ vwl σ (upR σ4 (12 + (i + 1)) (cp (σ4 (12 + i)) (σ4 (12 + (i + 1))) 28)) ∧ upR σ4 (12 + (i + 1)) (cp (σ4 (12 + i)) (σ4 (12 + (i + 1))) 28) 10 3 = σ 10 3 ∧ upR σ4 (12 + (i + 1)) (cp (σ4 (12 + i)) (σ4 (12 + (i + 1))) 28) 10 4 = σ 3 2 ∧ Laid (upR σ4 (12 + (i + 1)) (cp (σ4 (12 + i)) (σ4 (12 + (i + 1))) 28)) set (σ (k + 1)) i')) ∧ ((set / 2 ^ i % 2) = 1 → vc_X6_lay (upR σ4 (12 + (i + 1)) (cp (σ4 (12 + i)) (σ4 (12 + (i + 1))) 28)) i (12 + (i + 1)) (fun σ5 => ∃ n' : Nat, n' < n ∧ ∃ i' : Nat, i' ≤ N ∧ n' = 6 - i' ∧ ((i : Int) + 1) = i' ∧ vwl σ σ5 ∧ σ5 10 3 = σ 10 3 ∧ σ5 10 4 = σ 3 2 ∧ Laid σ5 set (σ (k + 1)) i'))) := by
        intro σ4 a1 a2 a3
        -- any state that differs from σ4 in the next row alone
        have fin : ∀ f' : Nat → Int, (∀ p : Nat, p < 28 → f' p = mkv (σ 10 3) set (σ 4) (σ (k + 1)) (i + 1) p) → ∃ n' : Nat, n' < n ∧ ∃ i' : Nat, i' ≤ N ∧ n' = 6 - i' ∧ ((i : Int) + 1) = i' ∧ vwl σ (upR σ4 (12 + (i + 1)) f') ∧ upR σ4 (12 + (i + 1)) f' 10 3 = σ 10 3 ∧ upR σ4 (12 + (i + 1)) f' 10 4 = σ 3 2 ∧ Laid (upR σ4 (12 + (i + 1)) f') set (σ (k + 1)) i' := by
          intro f' q
          refine ⟨6 - (i + 1), by omega, i + 1, by omega, rfl, by omega, ?_, ?_, ?_, ?_, ?_⟩
          · intro c c1 c2
            rw [upR_n _ _ (by omega), a1 c (by omega)]
            exact hv c c1 c2
          · rw [upR_n _ _ (by omega), a1 10 (by decide)]
            exact hs3
          · rw [upR_n _ _ (by omega), a1 10 (by decide)]
            exact hs4
          · intro b hb
            rw [upR_n _ _ (by omega)]
            by_cases e : b = i
            · rw [e]; exact a3
            · rw [a2 b e]; exact hL.1 b (by omega)
          · intro b hb p hpp
            have e10 : upR σ4 (12 + (i + 1)) f' 10 3 = σ 10 3 := by
              rw [upR_n _ _ (by omega), a1 10 (by decide)]
              exact hs3
            have e4 : upR σ4 (12 + (i + 1)) f' 4 = σ 4 := by rw [upR_n _ _ (by omega), a1 4 (by decide), v4]
            rw [e10, e4]
            by_cases e : b = i + 1
            · subst e
              rw [upR_s]
              exact q p hpp
            · rw [upR_n _ _ (by omega), a1 (12 + b) (by omega)]
              have := hL.2 b (by omega) p hpp
              rw [hs3, v4] at this
              exact this
        have hcp : ∀ p : Nat, p < 28 → cp (σ4 (12 + i)) (σ4 (12 + (i + 1))) 28 p = mkv (σ 10 3) set (σ 4) (σ (k + 1)) i p := by
          intro p hpp
          unfold cp
          rw [if_pos hpp, a1 (12 + i) (by omega)]
          have := hL.2 i (Nat.le_refl i) p hpp
          rw [hs3, v4] at this
          exact this
        refine ⟨hrgb, fun q => fin _ (fun p hpp => ?_), fun q => ?_⟩
        · rw [hcp p hpp, mkv_not]
          rintro ⟨⟨q1, -⟩, -⟩
          exact q q1
        · have e10 : upR σ4 (12 + (i + 1)) (cp (σ4 (12 + i)) (σ4 (12 + (i + 1))) 28) 10 3 = σ 10 3 := by rw [upR_n _ _ (by omega), a1 10 (by decide)]; exact hs3
          have e4 : upR σ4 (12 + (i + 1)) (cp (σ4 (12 + i)) (σ4 (12 + (i + 1))) 28) 4 = σ 4 := by rw [upR_n _ _ (by omega), a1 4 (by decide), v4]
          have e3 : upR σ4 (12 + (i + 1)) (cp (σ4 (12 + i)) (σ4 (12 + (i + 1))) 28) 3 = σ 3 := by rw [upR_n _ _ (by omega), a1 3 (by decide), v3]
          refine s_X6_lay (set := set) (gp := σ (k + 1)) ⟨by rw [e3]; exact hn.1, by rw [e4]; exact hn.2⟩ (by rw [e10]; exact hside) (by rw [e3]; omega) q hg ?_ ?_ ?_
          · rw [upR_n _ _ (by omega)]; exact a3
          · intro p hpp
            rw [upR_s, e10, e4]
            exact hcp p hpp
          · intro f' q2
            rw [upR_upR]
            rw [e10, e4] at q2
            exact fin f' q2
      have t1 : ((i : Int) + 1).toNat = i + 1 := by omega
      have t28 : (28 : Int).toNat = 28 := rfl
      rw [Int.toNat_natCast, t1, t28]
      refine ⟨fun hz => ⟨by omega, s_X2_at hk (by omega) ⟨by omega, by omega, by omega, hbit, body _ (fun c hc => up2_n _ _ _ hc) (fun b hb => by rw [up2_s, up1_n _ _ hb]) ?_⟩⟩, fun hz => ⟨by omega, by omega, by omega, hbit, body _ (fun c hc => up2_n _ _ _ hc) (fun b hb => by rw [up2_s, up1_n _ _ hb]) ?_⟩⟩
      · rw [up2_s, up1_s, show ((i : Int) - 1).toNat = i - 1 by omega, hL.1 (i - 1) (by omega), vk]
        obtain ⟨j, rfl⟩ : ∃ j, i = j + 1 := ⟨i - 1, by omega⟩
        rfl
      · rw [up2_s, up1_s]
        have e : i = 0 := by omega
        rw [e]
        rfl
theorem s_X6_layAll {σ : GS} {k : Nat} {side : Int} {Post : GS → Prop} (hk : k = 6 ∨ k = 8) (hn : FanR σ) (hside : 0 ≤ side ∧ side ≤ 1) (hg : GR σ (k + 1)) (h12 : ∀ p : Nat, p < 28 → σ 12 p = -9)
    (hp : ∀ σ', vwl σ σ' → σ' 10 3 = side → σ' 10 4 = σ 3 2 → Laid σ' 63 (σ (k + 1)) (σ 3 2).toNat → Post σ') : vc_X6_layAll σ k side Post := by
  unfold vc_X6_layAll
  have e : ∀ c, c ≠ 10 → up2 σ 10 3 side c = σ c := fun c hc => up2_n _ _ _ hc
  have e3 : up2 σ 10 3 side 10 3 = side := by rw [up2_s, up1_s]
  have ek : up2 σ 10 3 side (k + 1) = σ (k + 1) := e _ (by omega)
  have h3 := e 3 (by decide)
  refine ⟨hk, ?_⟩
  refine s_X6_layFrom (f := 0) hk ⟨by rw [h3]; exact hn.1, by rw [e 4 (by decide)]; exact hn.2⟩ (by rw [e3]; exact hside) (fun i => by rw [ek]; exact hg i) (by decide) (by have := hn.1; rw [h3]; omega) ⟨fun b hb => absurd hb (Nat.not_lt_zero b), fun b hb p hpp => ?_⟩ (fun σ' a1 a2 a3 a4 => ?_)
  · have eb : b = 0 := by omega
    subst eb
    rw [mkv_0, e 12 (by decide)]
    exact h12 p hpp
  · rw [e3] at a2
    rw [h3] at a3 a4
    rw [ek] at a4
    refine hp σ' (fun c c1 c2 => ?_) a2 a3 a4
    rw [a1 c c1 c2, e c c1]
theorem s_X6_layStaying {σ : GS} {k : Nat} {side set : Int} {Post : GS → Prop} (hk : k = 6 ∨ k = 8) (hn : FanR σ) (hside : 0 ≤ side ∧ side ≤ 1) (hset : 0 ≤ set ∧ set ≤ 63) (hg : GR σ (k + 1)) (h12 : ∀ p : Nat, p < 28 → σ 12 p = -9)
    (hp : ∀ σ', vwl σ σ' → σ' 10 3 = side → σ' 10 4 = σ 3 2 → Laid σ' set (σ (k + 1)) (σ 3 2).toNat → Post σ') : vc_X6_layStaying σ k side set Post := by
  unfold vc_X6_layStaying
  have e : ∀ c, c ≠ 10 → up2 σ 10 3 side c = σ c := fun c hc => up2_n _ _ _ hc
  have e3 : up2 σ 10 3 side 10 3 = side := by rw [up2_s, up1_s]
  have ek : up2 σ 10 3 side (k + 1) = σ (k + 1) := e _ (by omega)
  have h3 := e 3 (by decide)
  refine ⟨hk, ?_⟩
  refine s_X6_layFrom (f := 0) hk ⟨by rw [h3]; exact hn.1, by rw [e 4 (by decide)]; exact hn.2⟩ (by rw [e3]; exact hside) (fun i => by rw [ek]; exact hg i) hset (by have := hn.1; rw [h3]; omega) ⟨fun b hb => absurd hb (Nat.not_lt_zero b), fun b hb p hpp => ?_⟩ (fun σ' a1 a2 a3 a4 => ?_)
  · have eb : b = 0 := by omega
    subst eb
    rw [mkv_0, e 12 (by decide)]
    exact h12 p hpp
  · rw [e3] at a2
    rw [h3] at a3 a4
    rw [ek] at a4
    refine hp σ' (fun c c1 c2 => ?_) a2 a3 a4
    rw [a1 c c1 c2, e c c1]
