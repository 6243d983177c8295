abbrev cv (σ : GS) (p : Int) (b : Nat) : Prop := sol (σ 4 b) (p - sm (σ 7) b)
theorem cv_M {σ : GS} (hI : Inv σ) (p : Int) {b : Nat} (hb : (b : Int) < σ 3 2) : sol (σ 52 b) (p - sm (gm σ 0) b) ↔ cv σ p b := by
  unfold cv
  rw [hI.F.2.2.2.1 b hb, sm_congr (f := gm σ 0) (g := σ 7) (fun k hk => (hI.gE k (by omega)).symm)]
def shp (σ : GS) (N : Nat) (p : Int) : Int := if cnt (cv σ p) N = 0 then 0 else 60 / cnt (cv σ p) N
theorem s_X9_shareOfPlace {σ : GS} {p : Int} {N : Nat} {Post : Int → Prop} (hI : Inv σ) (hN : σ 3 2 = N) (hp0 : -100 ≤ p ∧ p ≤ 100) (hp : Post (shp σ N p)) : vc_X9_shareOfPlace σ p Post := by
  unfold vc_X9_shareOfPlace vc_X1_size
  have hn := hI.F.1.1
  rw [hN]
  refine ⟨fun n v2 v3 => ∃ i : Nat, i ≤ N ∧ n = N - i ∧ v3 = i ∧ v2 = cnt (cv σ p) i, ⟨N, 0, by omega, by omega, rfl, rfl⟩, ?_⟩
  rintro n v2 v3 ⟨i, h1, h2, rfl, rfl⟩
  have hc := cnt_rg (cv σ p) i
  have ec : cnt (cv σ p) (i + 1) = cnt (cv σ p) i + if cv σ p i then 1 else 0 := rfl
  have hb := sm_rg (f := σ 7) hI.G.1 i
  refine ⟨by omega, by omega, fun h => ?_, fun h => ?_⟩
  · have e : i = N := by omega
    subst e
    unfold shp at hp
    refine ⟨by omega, fun c => ⟨by omega, ?_⟩, fun c => ?_⟩
    · rw [if_neg c] at hp; exact hp
    · rw [if_pos c] at hp; exact hp
  · refine s_X2_sumAhead (Or.inl rfl) (by omega) ?_
    rw [show (min (i : Int) 5).toNat = i by omega]
    have hb7 : 0 ≤ sm (σ (6 + 1)) i ∧ sm (σ (6 + 1)) i ≤ 4 * i := hb
    refine s_X1_isSolid hI.F.1 (by omega) (by omega) ?_
    have e : ((0 ≤ (i : Int) ∧ (i : Int) < σ 3 2) ∧ sol (σ 4 (i : Int).toNat) (p - sm (σ (6 + 1)) i)) ↔ cv σ p i := by
      rw [Int.toNat_natCast]
      exact ⟨fun q => q.2, fun q => ⟨⟨by omega, by omega⟩, q⟩⟩
    rw [bi_congr e]
    have o1 : N - (i + 1) < n := by omega
    have o2 : i + 1 ≤ N := by omega
    refine bi_eq (fun q => ⟨N - (i + 1), o1, i + 1, o2, rfl, rfl, ?_⟩) (fun q => ⟨N - (i + 1), o1, i + 1, o2, rfl, rfl, ?_⟩)
    · rw [ec, if_neg q, Int.add_zero]
    · rw [ec, if_pos q]
def SX (σ : GS) (N a : Nat) (m : Nat) : Int := sm (fun c => if sol (σ 4 a) (c : Int) then shp σ N (sm (σ 7) a + c) else 0) m
theorem shp_rg (σ : GS) (N : Nat) (p : Int) : 0 ≤ shp σ N p ∧ shp σ N p ≤ 60 := by
  have hc := cnt_rg (cv σ p) N
  unfold shp
  split
  · omega
  · rename_i q
    have h1 : 0 < cnt (cv σ p) N := by omega
    generalize cnt (cv σ p) N = C at h1
    have := Int.ediv_nonneg (show (0 : Int) ≤ 60 by decide) (Int.le_of_lt h1)
    have := Int.ediv_le_self (b := C) (show (0 : Int) ≤ 60 by decide) 
    omega
theorem SX_rg (σ : GS) (N a : Nat) : ∀ m : Nat, 0 ≤ SX σ N a m ∧ SX σ N a m ≤ 60 * m
  | 0 => ⟨Int.le_refl _, by show (0 : Int) ≤ 0; decide⟩
  | m + 1 => by
      have := SX_rg σ N a m
      have h2 := shp_rg σ N (sm (σ 7) a + m)
      show 0 ≤ SX σ N a m + (if sol (σ 4 a) (m : Int) then shp σ N (sm (σ 7) a + m) else 0) ∧ SX σ N a m + (if sol (σ 4 a) (m : Int) then shp σ N (sm (σ 7) a + m) else 0) ≤ _
      split <;> omega
theorem s_X9_share {σ : GS} {a0 a1 : Int} {Post : Int → Prop} (hI : Inv σ) (h0 : rg a0) (h1 : rg a1) (b : ¬ (0 ≤ a0 ∧ a0 < σ 3 2) → Post (-1)) (hp : ∀ a N : Nat, a0 = a → σ 3 2 = N → a < N → N ≤ 6 → Post (frac (SX σ N a 4).toNat 60 a1)) : vc_X9_share σ a0 a1 Post := by
  unfold vc_X9_share
  have hn := hI.F.1.1
  refine s_X1_has hI.F.1 h0 (bi_ne (fun p0 => s_X2_sumAhead (Or.inl rfl) (by omega) ?_) (fun p0 => b p0))
  obtain ⟨a, rfl⟩ := Int.eq_ofNat_of_zero_le p0.1
  obtain ⟨N, eN⟩ := Int.eq_ofNat_of_zero_le hn.1
  rw [show (min (a : Int) 5).toNat = a by omega]
  have hb := sm_rg (f := σ 7) hI.G.1 a
  refine ⟨fun n v3 v5 => ∃ i : Nat, i ≤ 4 ∧ n = 4 - i ∧ v5 = i ∧ v3 = SX σ N a i, ⟨4, 0, by omega, by omega, rfl, rfl⟩, ?_⟩
  rintro n v3 v5 ⟨i, q1, q2, rfl, rfl⟩
  have hr := SX_rg σ N a i
  have ec : SX σ N a (i + 1) = SX σ N a i + (if sol (σ 4 a) (i : Int) then shp σ N (sm (σ 7) a + i) else 0) := rfl
  refine ⟨by omega, fun w => ?_, fun w => ?_⟩
  · have e : i = 4 := by omega
    subst e
    have := hp a N rfl eN (by omega) (by omega)
    obtain ⟨A, hA⟩ := Int.eq_ofNat_of_zero_le hr.1
    rw [hA] at hr ⊢
    rw [hA, Int.toNat_natCast] at this
    exact s_X9_fraction (B := 60) (by omega) (by omega) h1 this
  · refine s_X1_isSolid hI.F.1 h0 (by omega) ?_
    have e : ((0 ≤ (a : Int) ∧ (a : Int) < σ 3 2) ∧ sol (σ 4 (a : Int).toNat) (i : Int)) ↔ sol (σ 4 a) (i : Int) := by
      rw [Int.toNat_natCast]
      exact ⟨fun q => q.2, fun q => ⟨⟨by omega, by omega⟩, q⟩⟩
    rw [bi_congr e]
    have o1 : 4 - (i + 1) < n := by omega
    have o2 : i + 1 ≤ 4 := by omega
    have o3 : -100 ≤ sm (σ 7) a + (i : Int) ∧ sm (σ 7) a + (i : Int) ≤ 100 := by omega
    refine bi_eq (fun q => ⟨4 - (i + 1), o1, i + 1, o2, rfl, rfl, ?_⟩) (fun q => s_X9_shareOfPlace hI eN o3 ⟨4 - (i + 1), o1, i + 1, o2, rfl, rfl, ?_⟩)
    · rw [ec, if_neg q, Int.add_zero]
    · rw [ec, if_pos q]
theorem s_X10_ones {σ : GS} {s : Nat} {Post : Int → Prop} (hs64 : s < 64) (hp : Post (onN s 6 : Int)) : vc_X10_ones σ s Post := by
  unfold vc_X10_ones
  refine ⟨fun n v1 v2 => ∃ i : Nat, i ≤ 6 ∧ n = 6 - i ∧ v2 = i ∧ v1 = (onN s i : Int), ⟨6, 0, by omega, by omega, rfl, rfl⟩, ?_⟩
  rintro n v1 v2 ⟨i, h1, h2, rfl, rfl⟩
  refine ⟨by omega, fun h => ?_, fun h => ⟨⟨by omega, by omega⟩, 6 - (i + 1), by omega, i + 1, by omega, rfl, rfl, ?_⟩⟩
  · have e : i = 6 := by omega
    subst e
    exact hp
  · rw [Int.toNat_natCast, hsN]
    show _ = ((onN s i + s / 2 ^ i % 2 : Nat) : Int)
    omega
theorem s_X10_factorial {σ : GS} {z : Int} {Post : Int → Prop} (hz : -10 ≤ z ∧ z ≤ 10) (hp : Post (fct z.toNat : Int)) : vc_X10_factorial σ z Post := by
  unfold vc_X10_factorial
  refine ⟨fun n v1 v2 => ∃ i : Nat, 1 ≤ i ∧ (i = 1 ∨ (i : Int) ≤ z) ∧ n = 20 - i ∧ v2 = i + 1 ∧ v1 = (fct i : Int), ⟨19, 1, by omega, Or.inl rfl, by omega, rfl, rfl⟩, ?_⟩
  rintro n v1 v2 ⟨i, h1, h2, h3, rfl, rfl⟩
  refine ⟨by omega, by omega, fun h => ?_, fun h => ⟨20 - (i + 1), by omega, i + 1, by omega, by omega, rfl, rfl, ?_⟩⟩
  · rcases (show z.toNat = i ∨ (i = 1 ∧ z.toNat = 0) by omega) with e | ⟨e, e2⟩
    · rw [e] at hp; exact hp
    · rw [e2] at hp; rw [e]; exact hp
  · show _ = ((fct i * (i + 1) : Nat) : Int)
    rw [Int.natCast_mul]
    rfl
def TM (σ : GS) (N a m : Nat) : Int := sm (fun p => if cv σ p a then (WN N (mk (cv σ p) N) m : Int) else 0) 28
theorem TM_s {σ : GS} {N a m : Nat} (haN : a < N) : TM σ N a (m + 1) = TM σ N a m + (wN N m : Int) * sm (fun p : Nat => if cv σ p a ∧ ¬ (∃ b, b < N ∧ m / 2 ^ b % 2 = 1 ∧ cv σ p b) then 1 else 0) 28 := by
  unfold TM
  rw [sm_mul, ← sm_add]
  refine sm_congr (fun p _ => ?_)
  have hd := disB_iff m (mk (cv σ p) N) N
  have hd2 : disB m (mk (cv σ p) N) N = true ↔ ¬ (∃ b, b < N ∧ m / 2 ^ b % 2 = 1 ∧ cv σ p b) := by
    rw [hd]
    exact ⟨fun q ⟨b, h1, h2, h3⟩ => q b h1 ⟨h2, (mk_bit _ N b h1).mpr h3⟩, fun q b hb w => q ⟨b, hb, w.1, (mk_bit _ N b hb).mp w.2⟩⟩
  have ew : WN N (mk (cv σ p) N) (m + 1) = WN N (mk (cv σ p) N) m + if disB m (mk (cv σ p) N) N = true then wN N m else 0 := rfl
  by_cases c : cv σ p a
  · rw [if_pos c, if_pos c, ew]
    by_cases d : disB m (mk (cv σ p) N) N = true
    · rw [if_pos d, if_pos ⟨c, hd2.mp d⟩]; omega
    · rw [if_neg d, if_neg (fun q => d (hd2.mpr q.2))]; omega
  · rw [if_neg c, if_neg c, if_neg (fun q => c q.1)]; omega
theorem TM_fin {σ : GS} {N a : Nat} (hN : N ≤ 6) (haN : a < N) (p : Nat) (c : cv σ p a) : (WN N (mk (cv σ p) N) (2 ^ N) : Int) * cnt (cv σ p) N = fct N ∧ 1 ≤ cnt (cv σ p) N ∧ cnt (cv σ p) N ≤ 6 := by
  have hb := mk_bit (cv σ p) N
  have hl := mk_lt (cv σ p) N
  have h0 : mk (cv σ p) N ≠ 0 := fun e => by
    have := (hb a haN).mpr c
    rw [e, Nat.zero_div] at this
    exact absurd this (by decide)
  have hs := shapley N (by omega) _ hl h0
  have ho := onN_cnt (mk (cv σ p) N) (P := cv σ p) N hb
  have hc := cnt_rg (cv σ p) N
  rw [← ho] at hc ⊢
  have hf : 0 < fct N := by
    rcases (show N = 0 ∨ N = 1 ∨ N = 2 ∨ N = 3 ∨ N = 4 ∨ N = 5 ∨ N = 6 by omega) with rfl | rfl | rfl | rfl | rfl | rfl | rfl <;> decide
  have h1 : onN (mk (cv σ p) N) N ≠ 0 := fun e => by
    rw [e, Nat.mul_zero] at hs
    omega
  refine ⟨?_, by omega, by omega⟩
  rw [← Int.natCast_mul, hs]
theorem fct_6 {N : Nat} (hN : N ≤ 6) : 1 ≤ fct N ∧ fct N ≤ 720 := by
  rcases (show N = 0 ∨ N = 1 ∨ N = 2 ∨ N = 3 ∨ N = 4 ∨ N = 5 ∨ N = 6 by omega) with rfl | rfl | rfl | rfl | rfl | rfl | rfl <;> decide
theorem share_eq {σ : GS} (hI : Inv σ) {N a : Nat} (eN : σ 3 2 = N) (hN : N ≤ 6) (haN : a < N) : SX σ N a 4 * fct N = 60 * TM σ N a (2 ^ N) := by
  have hb := sm_rg (f := σ 7) hI.G.1 a
  obtain ⟨B, hB⟩ := Int.eq_ofNat_of_zero_le hb.1
  have e1 : SX σ N a 4 = sm (fun p => if cv σ p a then shp σ N p else 0) 28 := by
    unfold SX cv
    rw [hB, sm_win (F := fun p => shp σ N p) (kd := σ 4 a) (B := B) (by omega)]
    refine sm_congr (fun k _ => ?_)
    rw [show ((B + k : Nat) : Int) = (B : Int) + k by omega]
  rw [e1, Int.mul_comm, sm_mul]
  unfold TM
  rw [sm_mul]
  refine sm_congr (fun p _ => ?_)
  by_cases c : cv σ p a
  · rw [if_pos c, if_pos c]
    obtain ⟨t1, t2, t3⟩ := TM_fin hN haN p c
    unfold shp
    rw [if_neg (by omega), ← t1]
    generalize cnt (cv σ p) N = C at t2 t3
    generalize (WN N (mk (cv σ p) N) (2 ^ N) : Int) = W
    rcases (show C = 1 ∨ C = 2 ∨ C = 3 ∨ C = 4 ∨ C = 5 ∨ C = 6 by omega) with rfl | rfl | rfl | rfl | rfl | rfl <;> omega
  · rw [if_neg c, if_neg c]; omega
theorem sm_nn {f : Nat → Int} {M : Int} (h : ∀ k, 0 ≤ f k ∧ f k ≤ M) : ∀ n : Nat, 0 ≤ sm f n ∧ sm f n ≤ n * M
  | 0 => ⟨Int.le_refl _, by show (0 : Int) ≤ 0 * M; omega⟩
  | n + 1 => by
      have := sm_nn h n
      have := h n
      show 0 ≤ sm f n + f n ∧ sm f n + f n ≤ ((n + 1 : Nat) : Int) * M
      rw [show ((n + 1 : Nat) : Int) = (n : Int) + 1 by omega, Int.add_mul]
      omega
theorem TM_rg {σ : GS} {N a : Nat} (hN : N ≤ 6) (haN : a < N) : 0 ≤ TM σ N a (2 ^ N) ∧ TM σ N a (2 ^ N) ≤ 28 * 720 := by
  unfold TM
  refine sm_nn (M := 720) (fun p => ?_) 28
  by_cases c : cv σ p a
  · rw [if_pos c]
    obtain ⟨t1, t2, t3⟩ := TM_fin hN haN p c
    have := fct_6 hN
    have hm : (WN N (mk (cv σ p) N) (2 ^ N) : Int) * 1 ≤ (WN N (mk (cv σ p) N) (2 ^ N) : Int) * cnt (cv σ p) N := Int.mul_le_mul_of_nonneg_left t2 (by omega)
    omega
  · rw [if_neg c]; omega
