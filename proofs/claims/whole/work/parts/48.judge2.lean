abbrev jt (n A k : Nat) : Int := ((A / 1000 ^ (n - 1 - k) % 1000 : Nat) : Int)
def jF (σ : GS) (n A : Nat) (f : Nat → Int) : Nat → Nat → Int
  | 0 => f
  | k + 1 => jf σ (jt n A k / 100) (jt n A k % 10) (jF σ n A f k)
abbrev jP (σ : GS) (n A : Nat) (f : Nat → Int) (k : Nat) : Prop := jr σ (jt n A k / 100) (jt n A k / 10 % 10) (jt n A k % 10) (jF σ n A f k)
theorem jF_5 {σ : GS} {n A : Nat} {f : Nat → Int} (h : g5 f) : ∀ k, g5 (jF σ n A f k)
  | 0 => h
  | k + 1 => jf_5 (jF_5 h k)
/-- what a judgement reaches of the world -/
def jeq (σ σ' : GS) : Prop := σ' 3 = σ 3 ∧ σ' 4 = σ 4 ∧ σ' 5 = σ 5 ∧ σ' 21 = σ 21 ∧ σ' 22 = σ 22
theorem jf_c {σ σ' : GS} (h : jeq σ σ') (a0 a2 : Int) (f : Nat → Int) : jf σ' a0 a2 f = jf σ a0 a2 f := by
  unfold jf
  rw [jw1_c h.1 h.2.1, jw2_c h.1 h.2.1, jw3_c h.1 h.2.1]
theorem jr_c {σ σ' : GS} (h : jeq σ σ') (a0 a1 a2 : Int) (f : Nat → Int) : jr σ' a0 a1 a2 f ↔ jr σ a0 a1 a2 f := by
  unfold jr rF cF wF sF jc1 jc2 fre
  rw [h.1, h.2.1, h.2.2.1, h.2.2.2.1, h.2.2.2.2]
theorem jF_c {σ σ' : GS} (h : jeq σ σ') (n A : Nat) (f : Nat → Int) : ∀ k, jF σ' n A f k = jF σ n A f k
  | 0 => rfl
  | k + 1 => by
      unfold jF
      rw [jF_c h n A f k, jf_c h]
theorem jP_c {σ σ' : GS} (h : jeq σ σ') (n A : Nat) (f : Nat → Int) (k : Nat) : jP σ' n A f k ↔ jP σ n A f k := by
  unfold jP
  rw [jF_c h, jr_c h]
theorem p1000 {n : Nat} (hn : n ≤ 4) : 1 ≤ (1000 ^ n : Nat) ∧ (1000 ^ n : Nat) ≤ 1000000000000 :=
  ⟨Nat.pow_pos (by decide), by have := Nat.pow_le_pow_right (n := 1000) (by decide) hn; omega⟩
theorem s_X9_judge {σ : GS} {n A : Nat} {Post : Int → GS → Prop} (hI : Inv σ) (hn : 1 ≤ n ∧ n ≤ 4) (hA : A < 1000 ^ n) (hp : ∀ σ', scX σ σ' → Post (fnd (fun k => ¬ jP σ n A (σ 7) k) n) σ') : vc_X9_judge σ n A Post := by
  unfold vc_X9_judge
  have hb := p1000 (n := n) (by omega)
  rw [show (3 * (n : Int)) = ((3 * n : Nat) : Int) by omega]
  have e1000 : (10 ^ (3 * n) : Nat) = 1000 ^ n := by rw [Nat.pow_mul]
  refine ⟨by omega, fun c => absurd c (by omega), fun c => ⟨fun d => absurd d (by omega), fun d => s_X9_hasFigures ⟨by omega, by omega⟩ (by omega) (bi_ne (fun p => ?_) (fun p => absurd ⟨by omega, by rw [e1000]; omega⟩ p))⟩⟩
  refine ⟨fun m v i σ7 => ∃ k : Nat, k ≤ n ∧ m = n - k ∧ i = (n : Int) - 1 - k ∧ v = ((A / 1000 ^ k : Nat) : Int) ∧ fr [50] [] σ σ7 ∧ ∀ j : Nat, n - k ≤ j → j < n → σ7 50 j = jt n A j, ⟨n, 0, by omega, by omega, by omega, by rw [Nat.pow_zero, Nat.div_one], fr.rf, fun j h1 h2 => by omega⟩, ?_⟩
  rintro m v i σ7 ⟨k, h1, h2, rfl, rfl, f, h3⟩
  have hle : A / 1000 ^ k ≤ A := Nat.div_le_self _ _
  have hs := dv_s A 1000 k
  generalize hx : A / 1000 ^ k = x at hle hs
  refine ⟨by omega, fun h => x_copy9 (fun σ8 a1 a2 => ?_), fun h => ⟨by omega, by omega, n - (k + 1), by omega, k + 1, by omega, rfl, by omega, ?_, fr.u2 f (by decide) (by decide), fun j hj hj2 => ?_⟩⟩
  · have s0 : scX σ σ8 := by
      refine ⟨fun c c1 c2 c3 c4 => ?_, fun i hi => ?_⟩
      · rw [a1.1 c c1]
        by_cases e : c = 51
        · rw [e]; funext j; exact f.2 j (by simp)
        · exact f.1 c e (by simp; omega)
      · rw [a1.2 i hi, f.1 9 (by decide) (by decide)]
    have t50 : ∀ j : Nat, j < n → σ8 50 j = jt n A j := fun j hj => by rw [a1.1 50 (by decide)]; exact h3 j (by omega) hj
    rw [f.1 7 (by decide) (by decide)] at a2
    refine ⟨fun m v σ1 => ∃ k : Nat, k ≤ n ∧ m = n - k ∧ v = k ∧ scX σ σ1 ∧ σ1 50 = σ8 50 ∧ on5 (σ1 9) (jF σ n A (σ 7) k) ∧ ∀ j, j < k → ¬ ¬ jP σ n A (σ 7) j, ⟨n, 0, by omega, by omega, rfl, s0, rfl, a2, fun j hj => by omega⟩, ?_⟩
    rintro m v σ1 ⟨k, q1, q2, rfl, s1, q50, q3, q4⟩
    refine ⟨by omega, fun w => ?_, fun w => ?_⟩
    · have e : k = n := by omega
      subst e
      have := hp σ1 s1
      rw [fnd_none q4] at this
      exact this
    · rw [q50, Int.toNat_natCast, t50 k (by omega)]
      have ht : 0 ≤ jt n A k ∧ jt n A k ≤ 999 := by unfold jt; omega
      have I1 := hI.scX s1
      have je : jeq σ σ1 := ⟨s1.1 3 (by decide) (by decide) (by omega) (by omega), s1.1 4 (by decide) (by decide) (by omega) (by omega), s1.1 5 (by decide) (by decide) (by omega) (by omega), s1.1 21 (by decide) (by decide) (by omega) (by omega), s1.1 22 (by decide) (by decide) (by omega) (by omega)⟩
      have g5k : g5 (jF σ n A (σ 7) k) := jF_5 (fun g _ => hI.G.1 g) k
      have r1 : 0 ≤ jt n A k ∧ jt n A k ≤ 2147483647 := by omega
      have r2 : 0 ≤ jt n A k / 10 ∧ jt n A k / 10 ≤ 2147483647 := by omega
      have r3 : rg (jt n A k / 100) := by omega
      have r4 : 0 ≤ jt n A k / 10 % 10 ∧ jt n A k / 10 % 10 ≤ 9 := by omega
      have r5 : 0 ≤ jt n A k % 10 ∧ jt n A k % 10 ≤ 9 := by omega
      have r0 : 0 ≤ (k : Int) ∧ (k : Int) < 4 := by omega
      have o1 : n - (k + 1) < m := by omega
      have o2 : k + 1 ≤ n := by omega
      have o3 : ∀ j, j < k + 1 → j ≠ k → j < k := fun j _ _ => by omega
      have o4 : k + 1 + (n - (k + 1)) = n := by omega
      refine ⟨r0, r1, r2, s_X9_comesTrue I1 q3 g5k r3 r4 r5 (fun σ2 s2 o => ?_)⟩
      have o50 : σ2 50 = σ1 50 := s2.1 50 (by decide) (by decide) (by omega)
      have eP : jr σ1 (jt n A k / 100) (jt n A k / 10 % 10) (jt n A k % 10) (jF σ n A (σ 7) k) ↔ jP σ n A (σ 7) k := jr_c je _ _ _ _
      have ef : jf σ1 (jt n A k / 100) (jt n A k % 10) (jF σ n A (σ 7) k) = jF σ n A (σ 7) (k + 1) := jf_c je _ _ _
      rw [bi_congr eP]
      refine bi_ne (fun q => ⟨n - (k + 1), o1, k + 1, o2, rfl, rfl, s1.tr s2.sc, ?_, ?_, fun j hj => ?_⟩) (fun q => ?_)
      · rw [o50, q50]
      · rw [← ef]; exact o (eP.mpr q)
      · by_cases e : j = k
        · rw [e]; exact fun c => c q
        · exact q4 j (o3 j hj e)
      · have := hp σ2 (s1.tr s2.sc)
        have w2 : fnd (fun k => ¬ jP σ n A (σ 7) k) (k + 1 + (n - (k + 1))) = k := fnd_at q q4 _
        rw [o4] at w2
        rw [w2] at this
        exact this
  · rw [← hs]; omega
  · rw [up2_s, show ((n : Int) - 1 - k).toNat = n - 1 - k by omega]
    by_cases c : j = n - 1 - k
    · rw [c, up1_s]
      unfold jt
      rw [show n - 1 - (n - 1 - k) = k by omega, hx]
      omega
    · rw [up1_n _ _ c]
      exact h3 j (by omega) hj2
theorem s_X10_judge {σ : GS} {n A : Nat} {f0 : Nat → Int} {Post : Int → GS → Prop} (hI : Inv σ) (h0 : on5 (σ 54) f0) (hn : 1 ≤ n ∧ n ≤ 4) (hA : A < 1000 ^ n) (hp : ∀ σ', scM σ σ' → Post (fnd (fun k => ¬ jP σ n A f0 k) n) σ') : vc_X10_judge σ n A Post := by
  unfold vc_X10_judge
  have hb := p1000 (n := n) (by omega)
  refine ⟨by omega, s_X10_in (by omega) (by decide) (by decide) (bi_eq (fun c => absurd c (by omega)) (fun _ => s_X10_thousandTo (by omega) (s_X10_in ⟨by omega, by omega⟩ (by decide) (by omega) (bi_ne (fun p => m_lay hI.G.2.1 (fun σ1 a1 a2 => ?_)) (fun p => absurd ⟨by omega, by omega⟩ p)))))⟩
  refine ⟨fun m v σ1 => ∃ k : Nat, k ≤ n ∧ m = n - k ∧ v = k ∧ scM σ σ1 ∧ on5 (gm σ1 1) (jF σ n A f0 k) ∧ ∀ j, j < k → ¬ ¬ jP σ n A f0 j, ⟨n, 0, by omega, by omega, rfl, a1.sc, on5.tr a2 h0, fun j hj => by omega⟩, ?_⟩
  rintro m v σ1 ⟨k, q1, q2, rfl, s1, q3, q4⟩
  refine ⟨by omega, fun w => ?_, fun w => ?_⟩
  · have e : k = n := by omega
    subst e
    have := hp σ1 s1
    rw [fnd_none q4] at this
    exact this
  · rw [show ((n : Int) - 1 - k) = ((n - 1 - k : Nat) : Int) by omega]
    refine s_X10_thousandTo (by omega) ?_
    have hb2 := p1000 (n := n - 1 - k) (by omega)
    have hle : A / 1000 ^ (n - 1 - k) ≤ A := Nat.div_le_self _ _
    rw [show (A : Int) / ((1000 ^ (n - 1 - k) : Nat) : Int) = ((A / 1000 ^ (n - 1 - k) : Nat) : Int) from (Int.natCast_ediv _ _).symm]
    have et : ((A / 1000 ^ (n - 1 - k) : Nat) : Int) % 1000 = jt n A k := by unfold jt; omega
    rw [et]
    have ht : 0 ≤ jt n A k ∧ jt n A k ≤ 999 := by unfold jt; omega
    have I1 := hI.scM s1
    have je : jeq σ σ1 := ⟨s1.1 3 (by decide) (by decide) (by decide) (by decide), s1.1 4 (by decide) (by decide) (by decide) (by decide), s1.1 5 (by decide) (by decide) (by decide) (by decide), s1.1 21 (by decide) (by decide) (by decide) (by decide), s1.1 22 (by decide) (by decide) (by decide) (by decide)⟩
    have r1 : 0 ≤ jt n A k ∧ jt n A k ≤ 2147483647 := by omega
    have r2 : 0 ≤ jt n A k / 10 ∧ jt n A k / 10 ≤ 2147483647 := by omega
    have r3 : rg (jt n A k / 100) := by omega
    have r4 : 0 ≤ jt n A k / 10 % 10 ∧ jt n A k / 10 % 10 ≤ 9 := by omega
    have r5 : 0 ≤ jt n A k % 10 ∧ jt n A k % 10 ≤ 9 := by omega
    have o1 : n - (k + 1) < m := by omega
    have o2 : k + 1 ≤ n := by omega
    have o3 : ∀ j, j < k + 1 → j ≠ k → j < k := fun j _ _ => by omega
    have o4 : k + 1 + (n - (k + 1)) = n := by omega
    have o5 : 0 ≤ ((A / 1000 ^ (n - 1 - k) : Nat) : Int) ∧ ((A / 1000 ^ (n - 1 - k) : Nat) : Int) ≤ 9223372036854775807 := by
      generalize A / 1000 ^ (n - 1 - k) = x at hle
      omega
    have o6 : (0 ≤ (A : Int) ∧ (A : Int) ≤ 9223372036854775807) ∧ (0 < ((1000 ^ (n - 1 - k) : Nat) : Int) ∧ ((1000 ^ (n - 1 - k) : Nat) : Int) ≤ 9223372036854775807) := by
      generalize 1000 ^ (n - 1 - k) = y at hb2
      omega
    refine ⟨o6, o5, r1, r2, s_X10_tryThing I1 q3 r3 r4 r5 (fun σ2 s2 o => ?_)⟩
    have eP : jr σ1 (jt n A k / 100) (jt n A k / 10 % 10) (jt n A k % 10) (jF σ n A f0 k) ↔ jP σ n A f0 k := jr_c je _ _ _ _
    have ef : jf σ1 (jt n A k / 100) (jt n A k % 10) (jF σ n A f0 k) = jF σ n A f0 (k + 1) := jf_c je _ _ _
    rw [bi_congr eP]
    refine bi_ne (fun q => ⟨n - (k + 1), o1, k + 1, o2, rfl, rfl, s1.tr s2, ?_, fun j hj => ?_⟩) (fun q => ?_)
    · rw [← ef]; exact o (eP.mpr q)
    · by_cases e : j = k
      · rw [e]; exact fun c => c q
      · exact q4 j (o3 j hj e)
    · have := hp σ2 (s1.tr s2)
      have w2 : fnd (fun k => ¬ jP σ n A f0 k) (k + 1 + (n - (k + 1))) = k := fnd_at q q4 _
      rw [o4] at w2
      rw [w2] at this
      exact this
theorem q_judge {σ : GS} {a0 a1 : Int} {K : Int → Int → GS → Prop} (hI : Inv σ) (h0 : rg a0) (h1 : rgL a1) (hK : ∀ z σ', rg z → Inv σ' → K z z σ') : vc_X9_judge σ a0 a1 (fun z σ1 => vc_X10_judge σ1 a0 a1 (fun z' σ2 => K z z' σ2)) := by
  by_cases h : 1 ≤ a0 ∧ a0 ≤ 4
  · obtain ⟨n, rfl⟩ := Int.eq_ofNat_of_zero_le (show 0 ≤ a0 by omega)
    have hb := p1000 (n := n) (by omega)
    by_cases h2 : 0 ≤ a1 ∧ a1 < ((1000 ^ n : Nat) : Int)
    · obtain ⟨A, rfl⟩ := Int.eq_ofNat_of_zero_le h2.1
      refine s_X9_judge hI (by omega) (by omega) (fun σ1 s1 => ?_)
      have I1 := hI.scX s1
      have e7 := s1.1 7 (by decide) (by decide) (by omega) (by omega)
      have e54 := s1.1 54 (by decide) (by decide) (by omega) (by omega)
      have je : jeq σ σ1 := ⟨s1.1 3 (by decide) (by decide) (by omega) (by omega), s1.1 4 (by decide) (by decide) (by omega) (by omega), s1.1 5 (by decide) (by decide) (by omega) (by omega), s1.1 21 (by decide) (by decide) (by omega) (by omega), s1.1 22 (by decide) (by decide) (by omega) (by omega)⟩
      refine s_X10_judge (f0 := σ 7) I1 (by rw [e54]; exact hI.G.2.2.1) (by omega) (by omega) (fun σ2 s2 => ?_)
      rw [fnd_congr (P := fun k => ¬ jP σ1 n A (σ 7) k) (Q := fun k => ¬ jP σ n A (σ 7) k) (fun k _ => by rw [jP_c je])]
      have := fnd_rg (fun k => ¬ jP σ n A (σ 7) k) n
      exact hK _ _ ⟨by omega, by omega⟩ (I1.scM s2)
    · have M : vc_X10_judge σ n a1 (fun z' σ2 => K (-2) z' σ2) := by
        unfold vc_X10_judge
        exact ⟨h0, s_X10_in (rl h0) (by decide) (by decide) (bi_eq (fun c => absurd h c) (fun _ => s_X10_thousandTo (by omega) (s_X10_in h1 (by decide) (by omega) (bi_ne (fun c => absurd c (by omega)) (fun _ => hK _ _ (by decide) hI)))))⟩
      unfold vc_X9_judge
      rw [show (3 * (n : Int)) = ((3 * n : Nat) : Int) by omega]
      have e1000 : (10 ^ (3 * n) : Nat) = 1000 ^ n := by rw [Nat.pow_mul]
      exact ⟨h0, fun _ => M, fun c => ⟨fun _ => M, fun d => s_X9_hasFigures h1 (by omega) (bi_ne (fun p => absurd p (by rw [e1000]; exact h2)) (fun _ => M))⟩⟩
  · have M : vc_X10_judge σ a0 a1 (fun z' σ2 => K (-2) z' σ2) := by
      unfold vc_X10_judge
      exact ⟨h0, s_X10_in (rl h0) (by decide) (by decide) (bi_eq (fun _ => hK _ _ (by decide) hI) (fun c => absurd c h))⟩
    unfold vc_X9_judge
    exact ⟨h0, fun _ => M, fun c => ⟨fun _ => M, fun d => absurd ⟨by omega, by omega⟩ h⟩⟩
