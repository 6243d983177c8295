/-! ===== fractions and weights ===== -/
theorem gcd_st (x y : Nat) : Nat.gcd y (x % y) = Nat.gcd x y := by
  rw [Nat.gcd_comm x y, Nat.gcd_rec y x, Nat.gcd_comm]
theorem s_X9_greatestShared {σ : GS} {A B : Nat} {Post : Int → Prop} (hA : A ≤ 2000000) (hB : B ≤ 2000000) (hp : Post (Nat.gcd A B : Int)) : vc_X9_greatestShared σ A B Post := by
  unfold vc_X9_greatestShared
  refine ⟨fun n v2 v3 v4 => ∃ x y i : Nat, i ≤ 64 ∧ n = 64 - i ∧ v2 = x ∧ v3 = y ∧ v4 = i ∧ x ≤ 2000000 ∧ y ≤ 2000000 ∧ Nat.gcd x y = Nat.gcd A B ∧ (i = 0 ∨ (y < x ∧ x < 2 ^ (22 - i / 2) ∧ y < 2 ^ (22 - (i + 1) / 2))), ⟨64, A, B, 0, by omega, by omega, rfl, rfl, rfl, hA, hB, rfl, Or.inl rfl⟩, ?_⟩
  rintro n v2 v3 v4 ⟨x, y, i, h1, h2, rfl, rfl, rfl, hx, hy, hg, h3⟩
  have fin : y = 0 → Post (x : Int) := fun e => by
    subst e
    rw [Nat.gcd_zero_right] at hg
    rw [hg]
    exact hp
  refine ⟨by omega, fun h => fin ?_, fun h => ⟨by omega, fun h4 => fin (by omega), fun h4 => ⟨⟨by omega, by omega⟩, 64 - (i + 1), by omega, y, x % y, i + 1, by omega, rfl, rfl, by omega, rfl, hy, ?_, ?_, Or.inr ⟨Nat.mod_lt _ (by omega), ?_, ?_⟩⟩⟩⟩
  · have e : i = 64 := by omega
    subst e
    rcases h3 with h3 | ⟨_, _, h3⟩
    · omega
    · have : y < 2 ^ 0 := h3
      omega
  · have := Nat.mod_lt x (show 0 < y by omega)
    omega
  · rw [gcd_st, hg]
  · rcases h3 with rfl | ⟨_, _, h3⟩
    · show y < 4194304
      omega
    · exact h3
  · rcases h3 with rfl | ⟨q1, q2, q3⟩
    · show x % y < 2097152
      have := Nat.mod_lt x (show 0 < y by omega)
      omega
    · have hi : (i + 1) / 2 ≤ 21 := by
        by_cases c : (i + 1) / 2 ≤ 21
        · exact c
        · rw [show 22 - (i + 1) / 2 = 0 by omega] at q3
          have : y < 1 := q3
          omega
      have e1 : 22 - i / 2 = (22 - (i + 1 + 1) / 2) + 1 := by omega
      rw [e1, Nat.pow_succ] at q2
      have hm := Nat.mod_lt x (show 0 < y by omega)
      have hd := Nat.div_add_mod x y
      have hq : 1 ≤ x / y := Nat.div_pos (by omega) (by omega)
      have hq2 : y * 1 ≤ y * (x / y) := Nat.mul_le_mul_left y hq
      generalize 2 ^ (22 - (i + 1 + 1) / 2) = Z at q2 ⊢
      generalize y * (x / y) = W at hd hq2
      omega
theorem s_X9_fraction {σ : GS} {A B : Nat} {a2 : Int} {Post : Int → Prop} (hA : A ≤ 2000000) (hB : 0 < B ∧ B ≤ 2000000) (h2 : rg a2) (hp : Post (if a2 = 0 then ((B / Nat.gcd A B : Nat) : Int) else ((A / Nat.gcd A B : Nat) : Int))) : vc_X9_fraction σ A B a2 Post := by
  unfold vc_X9_fraction
  have h1 : 0 < Nat.gcd A B := Nat.gcd_pos_of_pos_right A hB.1
  have h3 : Nat.gcd A B ≤ B := Nat.gcd_le_right A hB.1
  refine s_X9_greatestShared hA hB.2 ⟨by omega, fun _ => ⟨h2, fun c => ⟨⟨by omega, by omega⟩, ?_⟩, fun c => ⟨⟨by omega, by omega⟩, ?_⟩⟩, fun c => absurd c (by omega)⟩
  · rw [if_pos c] at hp
    rw [show (B : Int) / (Nat.gcd A B : Int) = ((B / Nat.gcd A B : Nat) : Int) from (Int.natCast_ediv _ _).symm]
    exact hp
  · rw [if_neg c] at hp
    rw [show (A : Int) / (Nat.gcd A B : Int) = ((A / Nat.gcd A B : Nat) : Int) from (Int.natCast_ediv _ _).symm]
    exact hp
theorem s_X10_common {σ : GS} {A B : Nat} {Post : Int → Prop} (hA : A ≤ 2000000) (hB : B ≤ 2000000) (hp : Post (Nat.gcd A B : Int)) : vc_X10_common σ A B Post := by
  unfold vc_X10_common
  refine ⟨by omega, fun _ => ?_, fun c => absurd c (by omega)⟩
  refine ⟨fun n v2 v3 => ∃ x y : Nat, n = y ∧ v2 = x ∧ v3 = y ∧ x ≤ 2000000 ∧ y ≤ 2000000 ∧ Nat.gcd x y = Nat.gcd A B, ⟨B, A, B, rfl, rfl, rfl, hA, hB, rfl⟩, ?_⟩
  rintro n v2 v3 ⟨x, y, rfl, rfl, rfl, hx, hy, hg⟩
  refine ⟨by omega, fun h => ?_, fun h => ⟨⟨by omega, by omega⟩, x % n, Nat.mod_lt _ (by omega), n, x % n, rfl, rfl, by omega, hy, ?_, ?_⟩⟩
  · have e : n = 0 := by omega
    subst e
    rw [Nat.gcd_zero_right] at hg
    rw [hg]
    exact hp
  · have := Nat.mod_lt x (show 0 < n by omega)
    omega
  · rw [gcd_st, hg]
def wtN (a : Nat) : Nat → Nat → Nat
  | 0, _ => 1
  | n + 1, s => wtN a n s * (if s / 2 ^ n % 2 = 1 then 10 - a else a)
def totN (a n : Nat) : Nat → Nat
  | 0 => 0
  | m + 1 => totN a n m + wtN a n m
theorem tot_10 : ∀ n, n < 7 → ∀ a, a < 11 → totN a n (2 ^ n) = 10 ^ n := by decide +kernel
theorem wtN_le {a : Nat} (ha : a ≤ 10) (s : Nat) : ∀ n : Nat, wtN a n s ≤ 10 ^ n
  | 0 => Nat.le_refl _
  | n + 1 => by
      have ih := wtN_le ha s n
      rw [Nat.pow_succ]
      show wtN a n s * _ ≤ _
      refine Nat.mul_le_mul ih ?_
      split <;> omega
theorem p10_6 {n : Nat} (hn : n ≤ 6) : 1 ≤ (10 ^ n : Nat) ∧ (10 ^ n : Nat) ≤ 1000000 :=
  ⟨Nat.pow_pos (by decide), by have := Nat.pow_le_pow_right (n := 10) (by decide) hn; omega⟩
theorem hsN (s b : Nat) : (s : Int) / 2 ^ b % 2 = ((s / 2 ^ b % 2 : Nat) : Int) := by
  have e : ((2 : Int) ^ b) = ((2 ^ b : Nat) : Int) := by simp
  rw [e]
  rw [show (s : Int) / ((2 ^ b : Nat) : Int) = ((s / 2 ^ b : Nat) : Int) from (Int.natCast_ediv _ _).symm]
  omega
theorem s_X9_weightOf {σ : GS} {s a N : Nat} {Post : Int → Prop} (hN : σ 3 2 = N) (hN6 : N ≤ 6) (hs6 : s < 64) (ha : a ≤ 10) (hp : Post (wtN a N s : Int)) : vc_X9_weightOf σ s a Post := by
  unfold vc_X9_weightOf vc_X1_size
  rw [hN]
  refine ⟨fun n v3 v4 => ∃ i : Nat, i ≤ N ∧ n = N - i ∧ v4 = i ∧ v3 = (wtN a i s : Int), ⟨N, 0, by omega, by omega, rfl, rfl⟩, ?_⟩
  rintro n v3 v4 ⟨i, h1, h2, rfl, rfl⟩
  refine ⟨by omega, by omega, fun h => ?_, fun h => ?_⟩
  · have e : i = N := by omega
    subst e
    exact hp
  · rw [Int.toNat_natCast, hsN]
    refine ⟨⟨by omega, by omega⟩, by omega, fun c => ⟨N - (i + 1), by omega, i + 1, by omega, rfl, rfl, ?_⟩, fun c => ⟨N - (i + 1), by omega, i + 1, by omega, rfl, rfl, ?_⟩⟩
    · show _ = ((wtN a i s * (if s / 2 ^ i % 2 = 1 then 10 - a else a) : Nat) : Int)
      rw [if_neg (by omega), Int.natCast_mul]
    · show _ = ((wtN a i s * (if s / 2 ^ i % 2 = 1 then 10 - a else a) : Nat) : Int)
      rw [if_pos (by omega), Int.natCast_mul]
      congr 1
      omega
/-- drops -/
abbrev rdS (σ : GS) (a0 : Int) (s : Nat) : Int := rd a0 (lM σ 0 s a0) (σ 58) (σ 51 9).toNat
def dS (σ : GS) (a0 : Int) (a n : Nat) : Nat → Nat
  | 0 => 0
  | m + 1 => dS σ a0 a n m + if 0 ≤ rdS σ a0 m then wtN a n m else 0
theorem dS_le (σ : GS) (a0 : Int) (a n : Nat) : ∀ m, dS σ a0 a n m ≤ totN a n m
  | 0 => Nat.le_refl _
  | m + 1 => by
      have := dS_le σ a0 a n m
      unfold dS totN
      split <;> omega
theorem tot_mono (a n : Nat) {m k : Nat} (h : m ≤ k) : totN a n m ≤ totN a n k := by
  induction k with
  | zero => rw [show m = 0 by omega]; exact Nat.le_refl _
  | succ k ih =>
      by_cases e : m = k + 1
      · rw [e]; exact Nat.le_refl _
      · have := ih (by omega)
        show _ ≤ totN a n k + wtN a n k
        omega
def frac (S T : Nat) (a2 : Int) : Int := if a2 = 0 then ((T / Nat.gcd S T : Nat) : Int) else ((S / Nat.gcd S T : Nat) : Int)
def dropsV (σ : GS) (a0 a1 a2 : Int) : Int := if ¬ (a0 = 0 ∨ a0 = 1) then -2 else if ¬ (0 ≤ a1 ∧ a1 ≤ 10) then -2 else frac (dS σ a0 a1.toNat (σ 3 2).toNat (2 ^ (σ 3 2).toNat)) (10 ^ (σ 3 2).toNat) a2
theorem p2_6 {n : Nat} (hn : n ≤ 6) : 1 ≤ (2 ^ n : Nat) ∧ (2 ^ n : Nat) ≤ 64 :=
  ⟨Nat.pow_pos (by decide), by have := Nat.pow_le_pow_right (n := 2) (by decide) hn; omega⟩
theorem i2 (n : Nat) : (1 : Int) * 2 ^ n = ((2 ^ n : Nat) : Int) := by simp
theorem frac_rg {S T : Nat} (hS : S ≤ 2000000) (hT : T ≤ 2000000) (a2 : Int) : 0 ≤ frac S T a2 ∧ frac S T a2 ≤ 2000000 := by
  unfold frac
  have h1 : T / Nat.gcd S T ≤ T := Nat.div_le_self _ _
  have h2 : S / Nat.gcd S T ≤ S := Nat.div_le_self _ _
  generalize T / Nat.gcd S T = x at h1
  generalize S / Nat.gcd S T = y at h2
  split <;> omega
theorem dS_6 (σ : GS) (a0 : Int) {a n m : Nat} (ha : a ≤ 10) (hn : n ≤ 6) (hm : m ≤ 2 ^ n) : dS σ a0 a n m ≤ totN a n m ∧ totN a n m ≤ 10 ^ n ∧ (10 ^ n : Nat) ≤ 1000000 := by
  have h1 := dS_le σ a0 a n m
  have h2 := tot_mono a n hm
  rw [tot_10 n (by omega) a (by omega)] at h2
  exact ⟨h1, h2, (p10_6 hn).2⟩
theorem s_X10_drops {σ : GS} {a0 a1 a2 : Int} {Post : Int → Prop} (hI : Inv σ) (h0 : rg a0) (h1 : rg a1) (h2 : rg a2) (hp : Post (dropsV σ a0 a1 a2)) : vc_X10_drops σ a0 a1 a2 Post := by
  unfold vc_X10_drops
  unfold dropsV at hp
  have hn := hI.F.1.1
  have hN := hI.F.2.2.1
  refine ⟨h0, s_X10_in (rl h0) (by decide) (by decide) (bi_eq (fun p0 => ?_) (fun p0 => ⟨h1, s_X10_in (rl h1) (by decide) (by decide) (bi_ne (fun p1 => ?_) (fun p1 => ?_))⟩))⟩
  · rw [if_pos (by omega)] at hp; exact hp
  · rw [if_neg (by omega), if_neg (by omega)] at hp
    obtain ⟨a, rfl⟩ := Int.eq_ofNat_of_zero_le p1.1
    obtain ⟨N, eN⟩ := Int.eq_ofNat_of_zero_le hn.1
    rw [eN, Int.toNat_natCast, Int.toNat_natCast] at hp
    rw [hN, eN, Int.toNat_natCast, i2]
    have hN6 : N ≤ 6 := by omega
    have h64 := p2_6 hN6
    refine ⟨fun n v4 v5 v6 => ∃ m : Nat, m ≤ 2 ^ N ∧ n = 2 ^ N - m ∧ v6 = m ∧ v5 = (totN a N m : Int) ∧ v4 = (dS σ a0 a N m : Int), ⟨2 ^ N, 0, by omega, by omega, rfl, rfl, rfl⟩, ?_⟩
    rintro n v4 v5 v6 ⟨m, q1, q2, rfl, rfl, rfl⟩
    have hd := dS_6 σ a0 (a := a) (n := N) (m := m) (by omega) hN6 q1
    refine ⟨⟨⟨by omega, by omega⟩, by omega, by omega⟩, by omega, by omega, fun w => ?_, fun w => ?_⟩
    · have e : m = 2 ^ N := by omega
      subst e
      rw [tot_10 N (by omega) a (by omega)] at hd ⊢
      have hT := p10_6 hN6
      have g1 : 0 < Nat.gcd (dS σ a0 a N (2 ^ N)) (10 ^ N) := Nat.gcd_pos_of_pos_right _ (by omega)
      have g3 : Nat.gcd (dS σ a0 a N (2 ^ N)) (10 ^ N) ≤ 10 ^ N := Nat.gcd_le_right _ (by omega)
      unfold frac at hp
      refine s_X10_common (by omega) (by omega) ⟨h2, fun c => ⟨⟨by omega, by omega⟩, ?_⟩, fun c => ⟨⟨by omega, by omega⟩, ?_⟩⟩
      · rw [if_pos c] at hp
        rw [← Int.natCast_ediv]
        exact hp
      · rw [if_neg c] at hp
        rw [← Int.natCast_ediv]
        exact hp
    · have hm64 : m < 64 := by omega
      have o1 : 2 ^ N - (m + 1) < n := by omega
      have o2 : m + 1 ≤ 2 ^ N := by omega
      refine ⟨fun n2 v7 v8 => ∃ i : Nat, i ≤ N ∧ n2 = N - i ∧ v8 = i ∧ v7 = (wtN a i m : Int), ⟨N, 0, by omega, by omega, rfl, rfl⟩, ?_⟩
      rintro n2 v7 v8 ⟨i, r1, r2, rfl, rfl⟩
      refine ⟨by omega, by omega, fun w2 => ?_, fun w2 => ?_⟩
      · have e : i = N := by omega
        subst e
        refine s_X10_readsOn (L := 0) hI.F.2.1 hI.G.2.1 hI.F.2.2.2.2.2.1 hI.W.2.1 (by decide) (by omega) (by omega) ?_
        have hr := rd_rg a0 (lM σ 0 m a0) (σ 58) (σ 51 9).toNat
        refine ⟨⟨by omega, by omega⟩, fun c => ⟨2 ^ i - (m + 1), o1, m + 1, o2, rfl, rfl, ?_, ?_⟩, fun c => ⟨2 ^ i - (m + 1), o1, m + 1, o2, rfl, rfl, ?_, ?_⟩⟩
        · show _ = ((totN a i m + wtN a i m : Nat) : Int)
          omega
        · show _ = ((dS σ a0 a i m + (if 0 ≤ rdS σ a0 m then wtN a i m else 0) : Nat) : Int)
          rw [if_pos (by unfold rdS; omega)]
          omega
        · show _ = ((totN a i m + wtN a i m : Nat) : Int)
          omega
        · show _ = ((dS σ a0 a i m + (if 0 ≤ rdS σ a0 m then wtN a i m else 0) : Nat) : Int)
          rw [if_neg (by unfold rdS; omega)]
          omega
      · refine s_X10_has (by omega) (by omega) (bi_eq (fun c => ⟨N - (i + 1), by omega, i + 1, by omega, rfl, rfl, ?_⟩) (fun c => ⟨N - (i + 1), by omega, i + 1, by omega, rfl, rfl, ?_⟩))
        · unfold hs at c
          rw [hsN] at c
          show _ = ((wtN a i m * (if m / 2 ^ i % 2 = 1 then 10 - a else a) : Nat) : Int)
          rw [if_neg (by omega), Int.natCast_mul]
        · unfold hs at c
          rw [hsN] at c
          show _ = ((wtN a i m * (if m / 2 ^ i % 2 = 1 then 10 - a else a) : Nat) : Int)
          rw [if_pos (by omega), Int.natCast_mul]
          congr 1
          omega
  · rw [if_neg (by omega), if_pos (by omega)] at hp; exact hp
