/-! ===== word ===== -/
theorem s_X9_tenTo {σ : GS} {n : Nat} {Post : Int → Prop} (hn : n ≤ 18) (hp : Post ((10 ^ n : Nat) : Int)) : vc_X9_tenTo σ n Post := by
  unfold vc_X9_tenTo
  refine ⟨fun m v i => ∃ k : Nat, k ≤ n ∧ m = n - k ∧ i = k ∧ v = ((10 ^ k : Nat) : Int), ⟨n, 0, by omega, by omega, rfl, rfl⟩, ?_⟩
  rintro m v i ⟨k, h1, h2, rfl, rfl⟩
  refine ⟨by omega, by omega, fun h => ?_, fun h => ⟨n - (k + 1), by omega, k + 1, by omega, rfl, rfl, ?_⟩⟩
  · rw [show n = k by omega] at hp; exact hp
  · rw [Nat.pow_succ]; omega
theorem s_X10_hundredTo {σ : GS} {n : Nat} {Post : Int → Prop} (hn : n ≤ 9) (hp : Post ((100 ^ n : Nat) : Int)) : vc_X10_hundredTo σ n Post := by
  unfold vc_X10_hundredTo
  refine ⟨fun m v i => ∃ k : Nat, k ≤ n ∧ m = n - k ∧ i = k ∧ v = ((100 ^ k : Nat) : Int), ⟨n, 0, by omega, by omega, rfl, rfl⟩, ?_⟩
  rintro m v i ⟨k, h1, h2, rfl, rfl⟩
  refine ⟨by omega, by omega, fun h => ?_, fun h => ⟨n - (k + 1), by omega, k + 1, by omega, rfl, rfl, ?_⟩⟩
  · rw [show n = k by omega] at hp; exact hp
  · rw [Nat.pow_succ]; omega
theorem s_X10_thousandTo {σ : GS} {n : Nat} {Post : Int → Prop} (hn : n ≤ 6) (hp : Post ((1000 ^ n : Nat) : Int)) : vc_X10_thousandTo σ n Post := by
  unfold vc_X10_thousandTo
  refine ⟨fun m v i => ∃ k : Nat, k ≤ n ∧ m = n - k ∧ i = k ∧ v = ((1000 ^ k : Nat) : Int), ⟨n, 0, by omega, by omega, rfl, rfl⟩, ?_⟩
  rintro m v i ⟨k, h1, h2, rfl, rfl⟩
  refine ⟨by omega, by omega, fun h => ?_, fun h => ⟨n - (k + 1), by omega, k + 1, by omega, rfl, rfl, ?_⟩⟩
  · rw [show n = k by omega] at hp; exact hp
  · rw [Nat.pow_succ]; omega
theorem p10 {n : Nat} (hn : n ≤ 18) : 1 ≤ (10 ^ n : Nat) ∧ (10 ^ n : Nat) ≤ 1000000000000000000 :=
  ⟨Nat.pow_pos (by decide), by have := Nat.pow_le_pow_right (n := 10) (by decide) hn; omega⟩
theorem s_X9_hasFigures {σ : GS} {a : Int} {n : Nat} {Post : Int → Prop} (ha : rgL a) (hn : n ≤ 18) (hp : Post (bi (0 ≤ a ∧ a < ((10 ^ n : Nat) : Int)))) : vc_X9_hasFigures σ a n Post := by
  unfold vc_X9_hasFigures
  have hb := p10 hn
  refine ⟨lc_rg _ _, fun h => pf ?_ hp, fun h => s_X9_tenTo hn ⟨lc_rg _ _, fun h2 => pf ?_ hp, fun h2 => pt ?_ hp⟩⟩
  · rw [lc_lt ha (by decide)] at h; omega
  · rw [lc_ge ha (by omega)] at h2; omega
  · rw [lc_ge ha (by omega)] at h2; rw [lc_lt ha (by decide)] at h; omega
abbrev dh (A k : Nat) : Nat := A / 100 ^ k % 100
theorem dv_s (A B k : Nat) : A / B ^ k / B = A / B ^ (k + 1) := by rw [Nat.div_div_eq_div_mul, Nat.pow_succ]
theorem s_X9_areLetters {σ : GS} {n A : Nat} {Post : Int → Prop} (hn : n ≤ 5) (hA : A ≤ 1000000000000000000) (hp : Post (bi (∀ k, k < n → dh A k ≤ 25))) : vc_X9_areLetters σ n A Post := by
  unfold vc_X9_areLetters
  refine ⟨fun m v i => ∃ k : Nat, k ≤ n ∧ m = n - k ∧ i = k ∧ v = ((A / 100 ^ k : Nat) : Int) ∧ ∀ j, j < k → dh A j ≤ 25, ⟨n, 0, by omega, by omega, rfl, by rw [Nat.pow_zero, Nat.div_one], fun j hj => absurd hj (Nat.not_lt_zero j)⟩, ?_⟩
  rintro m v i ⟨k, h1, h2, rfl, rfl, h3⟩
  have hle : A / 100 ^ k ≤ A := Nat.div_le_self _ _
  have hs := dv_s A 100 k
  generalize hx : A / 100 ^ k = x at hle hs
  have hx2 : dh A k = x % 100 := by unfold dh; rw [hx]
  refine ⟨by omega, by omega, fun h => ?_, fun h => ⟨by omega, lc_rg _ _, fun h4 => ⟨n - (k + 1), by omega, k + 1, by omega, rfl, rfl, ?_, fun j hj => ?_⟩, fun h4 => ?_⟩⟩
  · exact pt (fun j hj => h3 j (by omega)) hp
  · rw [← hs]; omega
  · rw [lc_le (by omega) (by decide)] at h4
    by_cases e : j = k
    · subst e; rw [hx2]; omega
    · exact h3 j (by omega)
  · rw [lc_le (by omega) (by decide)] at h4
    exact pf (fun q => by have := q k (by omega); rw [hx2] at this; omega) hp
theorem s_X8_take {σ : GS} {n A : Nat} {Post : GS → Prop} (hn : n ≤ 5) (hA : A ≤ 1000000000000000000) (hp : ∀ σ', fr [21, 22] [] σ σ' → σ' 21 1 = n → (∀ j : Nat, σ' 22 j = if j < n then 97 + (dh A (n - 1 - j) : Int) else σ 22 j) → Post σ') : vc_X8_take σ n A Post := by
  unfold vc_X8_take
  rw [show max (0 : Int) (min (n : Int) 5) = n by omega, up2_s, up1_s]
  refine ⟨by omega, by omega, fun m v i σ3 => ∃ k : Nat, k ≤ n ∧ m = n - k ∧ i = (n : Int) - 1 - k ∧ v = ((A / 100 ^ k : Nat) : Int) ∧ fr [21, 22] [] σ σ3 ∧ σ3 21 1 = n ∧ ∀ j : Nat, σ3 22 j = if n - k ≤ j ∧ j < n then 97 + (dh A (n - 1 - j) : Int) else σ 22 j, ⟨n, 0, by omega, by omega, by omega, by rw [Nat.pow_zero, Nat.div_one], fr.u2 fr.rf (by decide) (by decide), by rw [up2_s, up1_s], fun j => ?_⟩, ?_⟩
  · rw [up2_n _ _ _ (by decide), if_neg (by omega)]
  rintro m v i σ3 ⟨k, h1, h2, rfl, rfl, f, h3, h4⟩
  have hle : A / 100 ^ k ≤ A := Nat.div_le_self _ _
  have hs := dv_s A 100 k
  generalize hx : A / 100 ^ k = x at hle hs
  have hx2 : dh A k = x % 100 := by unfold dh; rw [hx]
  refine ⟨by omega, fun h => ?_, fun h => ⟨by omega, by omega, n - (k + 1), by omega, k + 1, by omega, rfl, by omega, ?_, fr.u2 f (by decide) (by decide), ?_, fun j => ?_⟩⟩
  · have e : k = n := by omega
    subst e
    refine hp σ3 f h3 (fun j => ?_)
    rw [h4]
    by_cases c : j < k
    · rw [if_pos c, if_pos (by omega)]
    · rw [if_neg c, if_neg (by omega)]
  · rw [← hs]; omega
  · rw [up2_n _ _ _ (by decide)]; exact h3
  · rw [up2_s, show ((n : Int) - 1 - k).toNat = n - 1 - k by omega]
    by_cases c : j = n - 1 - k
    · rw [c, up1_s, if_pos (by omega), show n - 1 - (n - 1 - k) = k by omega, hx2]
      omega
    · rw [up1_n _ _ c, h4]
      by_cases d : n - k ≤ j ∧ j < n
      · rw [if_pos d, if_pos (by omega)]
      · rw [if_neg d, if_neg (by omega)]
theorem p100 {n : Nat} (hn : n ≤ 5) : 1 ≤ (100 ^ n : Nat) ∧ (100 ^ n : Nat) ≤ 10000000000 :=
  ⟨Nat.pow_pos (by decide), by have := Nat.pow_le_pow_right (n := 100) (by decide) hn; omega⟩
theorem s_X10_word {σ : GS} {a0 a1 : Int} {Post : Int → GS → Prop} (h0 : rg a0) (h1 : rgL a1) (b : ∀ n A : Nat, n ≤ 5 → A < 100 ^ n → a0 = n → a1 = A → (∀ k, k < n → dh A k ≤ 25) → ∀ σ', fr [58] [9] σ σ' → σ' 51 9 = n → (∀ j : Nat, σ' 58 j = if j < n then (dh A (n - 1 - j) : Int) else σ 58 j) → Post (σ 51 9) σ') (c : ¬ (∃ n A : Nat, n ≤ 5 ∧ A < 100 ^ n ∧ a0 = n ∧ a1 = A ∧ (∀ k, k < n → dh A k ≤ 25)) → Post (-2) σ) : vc_X10_word σ a0 a1 Post := by
  unfold vc_X10_word
  refine ⟨h0, s_X10_in (rl h0) (by decide) (by decide) (bi_eq (fun p => c ?_) (fun p => ?_))⟩
  · rintro ⟨n, A, q1, q2, rfl, rfl, q3⟩
    omega
  · obtain ⟨n, rfl⟩ := Int.eq_ofNat_of_zero_le p.1
    have hb := p100 (n := n) (by omega)
    refine s_X10_hundredTo (by omega) (s_X10_in h1 (by decide) (by omega) (bi_ne (fun p1 => ?_) (fun p1 => c ?_)))
    · obtain ⟨A, rfl⟩ := Int.eq_ofNat_of_zero_le p1.1
      have dd : ∀ k : Nat, (A : Int) / ((100 ^ k : Nat) : Int) = ((A / 100 ^ k : Nat) : Int) := fun k => (Int.natCast_ediv _ _).symm
      refine ⟨fun m i => ∃ k : Nat, k ≤ n ∧ m = n - k ∧ i = k ∧ ∀ j, j < k → dh A j ≤ 25, ⟨n, 0, by omega, by omega, rfl, fun j hj => absurd hj (Nat.not_lt_zero j)⟩, ?_⟩
      rintro m i ⟨k, q1, q2, rfl, q3⟩
      refine ⟨by omega, fun h => ?_, fun h => s_X10_hundredTo (by omega) ?_⟩
      · have e : k = n := by omega
        subst e
        refine ⟨fun m i σ2 => ∃ j : Nat, j ≤ k ∧ m = k - j ∧ i = j ∧ fr [58] [9] σ σ2 ∧ σ2 51 9 = k ∧ ∀ l : Nat, σ2 58 l = if l < j then (dh A (k - 1 - l) : Int) else σ 58 l, ⟨k, 0, by omega, by omega, rfl, fr.u5 fr.rf (by decide), by rw [up2_s, up1_s], fun l => ?_⟩, ?_⟩
        · rw [up2_n _ _ _ (by decide), if_neg (by omega)]
        · rintro m i σ2 ⟨j, r1, r2, rfl, f, r3, r4⟩
          refine ⟨by omega, fun h => ?_, fun h => ?_⟩
          · have e : j = k := by omega
            subst e
            exact b j A (by omega) (by omega) rfl rfl q3 σ2 f r3 r4
          · rw [show ((k : Int) - 1 - j) = ((k - 1 - j : Nat) : Int) by omega]
            refine s_X10_hundredTo (by omega) ?_
            have hb2 := p100 (n := k - 1 - j) (by omega)
            have hle : A / 100 ^ (k - 1 - j) ≤ A := Nat.div_le_self _ _
            rw [dd]
            have hx2 : (dh A (k - 1 - j) : Int) = ((A / 100 ^ (k - 1 - j) : Nat) : Int) % 100 := by unfold dh; omega
            generalize A / 100 ^ (k - 1 - j) = x at hle hx2
            refine ⟨⟨by omega, by omega⟩, by omega, by omega, k - (j + 1), by omega, j + 1, by omega, rfl, rfl, fr.u2 f (by decide) (by decide), r3, fun l => ?_⟩
            rw [up2_s, Int.toNat_natCast]
            by_cases e : l = j
            · rw [e, up1_s, if_pos (by omega), hx2]
            · rw [up1_n _ _ e, r4]
              by_cases d : l < j
              · rw [if_pos d, if_pos (by omega)]
              · rw [if_neg d, if_neg (by omega)]
      · have hb2 := p100 (n := k) (by omega)
        have hle : A / 100 ^ k ≤ A := Nat.div_le_self _ _
        rw [dd]
        have hx2 : dh A k = (A / 100 ^ k) % 100 := rfl
        generalize A / 100 ^ k = x at hle hx2
        refine ⟨⟨by omega, by omega⟩, by omega, lc_rg _ _, fun h4 => ⟨n - (k + 1), by omega, k + 1, by omega, rfl, rfl, fun j hj => ?_⟩, fun h4 => c ?_⟩
        · rw [lc_le (by omega) (by decide)] at h4
          by_cases e : j = k
          · subst e; rw [hx2]; omega
          · exact q3 j (by omega)
        · rw [lc_le (by omega) (by decide)] at h4
          rintro ⟨n', A', w1, w2, w3, w4, w5⟩
          have : n' = n := by omega
          subst this
          have : A' = A := by omega
          subst this
          have := w5 k (by omega)
          omega
    · rintro ⟨n', A', w1, w2, w3, rfl, w5⟩
      have : n' = n := by omega
      subst this
      omega
theorem q_word {σ : GS} {a0 a1 : Int} {K : Int → Int → GS → Prop} (hI : Inv σ) (h0 : rg a0) (h1 : rgL a1) (hK : ∀ z σ', rg z → Inv σ' → K z z σ') : vc_X9_word σ a0 a1 (fun z σ1 => vc_X10_word σ1 a0 a1 (fun z' σ2 => K z z' σ2)) := by
  unfold vc_X9_word
  have bad : ¬ (∃ n A : Nat, n ≤ 5 ∧ A < 100 ^ n ∧ a0 = n ∧ a1 = A ∧ (∀ k, k < n → dh A k ≤ 25)) → vc_X10_word σ a0 a1 (fun z' σ2 => K (-2) z' σ2) := by
    intro q
    exact s_X10_word h0 h1 (fun n A w1 w2 w3 w4 w5 => absurd ⟨n, A, w1, w2, w3, w4, w5⟩ q) (fun _ => hK _ _ (by decide) hI)
  refine ⟨h0, fun c => bad ?_, fun c => ⟨fun d => bad ?_, fun d => ?_⟩⟩
  · rintro ⟨n, A, q1, q2, rfl, rfl, q3⟩; omega
  · rintro ⟨n, A, q1, q2, rfl, rfl, q3⟩; omega
  · obtain ⟨n, rfl⟩ := Int.eq_ofNat_of_zero_le (show 0 ≤ a0 by omega)
    rw [show (2 * (n : Int)) = ((2 * n : Nat) : Int) by omega]
    have e100 : (10 ^ (2 * n) : Nat) = 100 ^ n := by rw [Nat.pow_mul]
    have hb := p100 (n := n) (by omega)
    refine s_X9_hasFigures h1 (by omega) (bi_eq (fun p => bad ?_) (fun p => ?_))
    · rintro ⟨n', A, q1, q2, q4, rfl, q3⟩
      have : n' = n := by omega
      subst this
      rw [e100] at p
      omega
    · obtain ⟨A, rfl⟩ := Int.eq_ofNat_of_zero_le p.1
      rw [e100] at p
      refine s_X9_areLetters (by omega) (by omega) (bi_ne (fun p2 => ?_) (fun p2 => bad ?_))
      · unfold vc_X8_length
        refine s_X8_take (by omega) (by omega) (fun σ1 f g1 g2 => s_X10_word h0 h1 (fun n' A' w1 w2 w3 w4 w5 σ2 f2 k1 k2 => ?_) (fun q => absurd ⟨n, A, by omega, by omega, rfl, rfl, p2⟩ q))
        have : n' = n := by omega
        subst this
        have : A' = A := by omega
        subst this
        rw [f.2 9 (by decide), hI.W.2.2.1]
        have F : fr [21, 22, 58] [9] σ σ2 := fr.tr (f.mono (by simp +contextual) (by simp)) (f2.mono (by simp +contextual) (by simp))
        have hw := hI.W
        refine hK _ _ (by have := hw.1.1; omega) ⟨hI.T.fr F (by decide), hI.F.fr F (by decide), hI.G.fr F (by decide), ?_, hI.A.fr F (by decide), hI.S.fr F (by decide), hI.P.fr F (by decide), hI.E.fr F (by decide), hI.V.fr F (by decide)⟩
        have r22 : ∀ j : Nat, σ2 22 j = if j < n' then 97 + (dh A' (n' - 1 - j) : Int) else σ 22 j := by
          intro j
          rw [f2.1 22 (by decide) (by decide)]; exact g2 j
        have r58 : ∀ j : Nat, σ2 58 j = if j < n' then (dh A' (n' - 1 - j) : Int) else σ 58 j := by
          intro j
          rw [k2 j, f.1 58 (by decide) (by decide)]
        have r21 : σ2 21 1 = n' := by rw [f2.1 21 (by decide) (by decide)]; exact g1
        unfold iW WordX WordM
        rw [k1, r21]
        refine ⟨⟨by omega, fun i => ?_⟩, ⟨by omega, fun i => ?_⟩, rfl, fun i hi => ?_⟩
        · rw [r22]
          split
          · have := w5 (n' - 1 - i) (by omega)
            omega
          · exact hw.1.2 i
        · rw [r58]
          split
          · have := w5 (n' - 1 - i) (by omega)
            omega
          · exact hw.2.1.2 i
        · rw [r22, r58, if_pos (by omega), if_pos (by omega)]
          omega
      · rintro ⟨n', A', q1, q2, q4, q5, q3⟩
        have : n' = n := by omega
        subst this
        have : A' = A := by omega
        subst this
        exact p2 q3
