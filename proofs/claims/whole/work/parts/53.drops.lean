theorem rdS_c {σ σ' : GS} (s : scX σ σ') (a0 : Int) (m : Nat) : rdS σ' a0 m = rdS σ a0 m := by
  unfold rdS lM gm
  rw [s.1 51 (by decide) (by decide) (by omega) (by omega), s.1 52 (by decide) (by decide) (by omega) (by omega), s.1 53 (by decide) (by decide) (by omega) (by omega), s.1 54 (by decide) (by decide) (by omega) (by omega), s.1 58 (by decide) (by decide) (by omega) (by omega)]
theorem dS_c {σ σ' : GS} (s : scX σ σ') (a0 : Int) (a n : Nat) : ∀ m, dS σ' a0 a n m = dS σ a0 a n m
  | 0 => rfl
  | m + 1 => by
      unfold dS
      rw [dS_c s a0 a n m, rdS_c s]
theorem dropsV_c {σ σ' : GS} (s : scX σ σ') (a0 a1 a2 : Int) : dropsV σ' a0 a1 a2 = dropsV σ a0 a1 a2 := by
  unfold dropsV
  rw [dS_c s, s.1 3 (by decide) (by decide) (by omega) (by omega)]
theorem s_X9_drops {σ : GS} {a0 a1 a2 : Int} {Post : Int → GS → Prop} (hI : Inv σ) (h0 : rg a0) (h1 : rg a1) (h2 : rg a2) (hp : ∀ σ', scX σ σ' → Post (dropsV σ a0 a1 a2) σ') : vc_X9_drops σ a0 a1 a2 Post := by
  unfold vc_X9_drops
  unfold dropsV at hp
  have hn := hI.F.1.1
  refine s_X9_isBit h0 (bi_eq (fun p0 => ?_) (fun p0 => ⟨h1, fun c => ?_, fun c => ⟨fun d => ?_, fun d => ?_⟩⟩))
  · rw [if_pos (by omega)] at hp; exact hp σ (scX.rf σ)
  · rw [if_neg (by omega), if_pos (by omega)] at hp; exact hp σ (scX.rf σ)
  · rw [if_neg (by omega), if_neg (by omega)] at hp
    obtain ⟨a, rfl⟩ := Int.eq_ofNat_of_zero_le (show 0 ≤ a1 by omega)
    obtain ⟨N, eN⟩ := Int.eq_ofNat_of_zero_le hn.1
    rw [eN, Int.toNat_natCast, Int.toNat_natCast] at hp
    have hN6 : N ≤ 6 := by omega
    have h64 := p2_6 hN6
    have hT := p10_6 hN6
    unfold vc_X1_size
    rw [eN]
    refine ⟨fun n v5 v6 => ∃ i : Nat, i ≤ N ∧ n = N - i ∧ v6 = i ∧ v5 = ((10 ^ i : Nat) : Int), ⟨N, 0, by omega, by omega, rfl, rfl⟩, ?_⟩
    rintro n v5 v6 ⟨i, r1, r2, rfl, rfl⟩
    refine ⟨by omega, by omega, fun w => ?_, fun w => ⟨N - (i + 1), by omega, i + 1, by omega, rfl, rfl, by rw [Nat.pow_succ]; omega⟩⟩
    have e : i = N := by omega
    subst e
    refine ⟨fun n v4 v6 σ1 => ∃ m : Nat, m ≤ 2 ^ i ∧ n = 2 ^ i - m ∧ v6 = m ∧ v4 = (dS σ a0 a i m : Int) ∧ scX σ σ1, ⟨2 ^ i, 0, by omega, by omega, rfl, rfl, scX.rf σ⟩, ?_⟩
    rintro n v4 v6 σ1 ⟨m, q1, q2, rfl, rfl, s1⟩
    have hd := dS_6 σ a0 (a := a) (n := i) (m := m) (by omega) hN6 q1
    have e3 : σ1 3 2 = i := by rw [s1.1 3 (by decide) (by decide) (by omega) (by omega), eN]
    dsimp only
    rw [e3, Int.toNat_natCast, i2]
    refine ⟨⟨⟨by omega, by omega⟩, by omega, by omega⟩, by omega, by omega, fun w => ?_, fun w => ?_⟩
    · have e : m = 2 ^ i := by omega
      subst e
      exact s_X9_fraction (by omega) (by omega) h2 (hp σ1 s1)
    · have hm64 : m < 64 := by omega
      have o1 : 2 ^ i - (m + 1) < n := by omega
      have o2 : m + 1 ≤ 2 ^ i := by omega
      have I1 := hI.scX s1
      have hw := wtN_le (a := a) (by omega) m i
      refine s_X9_weightOf (N := i) e3 hN6 hm64 (by omega) ⟨by omega, fun z => ⟨2 ^ i - (m + 1), o1, m + 1, o2, rfl, rfl, ?_, s1⟩, fun z => ?_⟩
      · show _ = ((dS σ a0 a i m + (if 0 ≤ rdS σ a0 m then wtN a i m else 0) : Nat) : Int)
        split <;> omega
      · refine s_X6_layStaying (Or.inl rfl) I1.F.1 (by omega) (by omega) I1.G.1 I1.V.1 (fun σ2 a1 a2 a3 a4 => ?_)
        have s2 := s1.tr a1.sc
        have I2 := hI.scX s2
        have f7 := a1 7 (by decide) (by omega)
        have f3 := a1 3 (by decide) (by omega)
        have lv : LV σ2 m (σ2 7) := by
          refine ⟨I2.F.1, by rw [a2]; omega, by rw [a3, f3], I2.G.1, ?_⟩
          rw [f7, f3]
          exact a4
        refine s_X8_isRead lv I2.W.1 I2.F.2.2.2.2.1 ?_
        have er : rd (σ2 10 3) (lv_ σ2 m (σ2 7)) (σ2 22) (σ2 21 1).toNat = rdS σ a0 m := by
          rw [← rdS_c s2]
          unfold lv_ rdS
          rw [a2]
          exact rd_XM I2 I2.gE p0 m
        rw [er]
        refine bi_eq (fun c => ⟨2 ^ i - (m + 1), o1, m + 1, o2, rfl, rfl, ?_, s2⟩) (fun c => ⟨2 ^ i - (m + 1), o1, m + 1, o2, rfl, rfl, ?_, s2⟩)
        · show _ = ((dS σ a0 a i m + (if 0 ≤ rdS σ a0 m then wtN a i m else 0) : Nat) : Int)
          rw [if_neg c]
          omega
        · show _ = ((dS σ a0 a i m + (if 0 ≤ rdS σ a0 m then wtN a i m else 0) : Nat) : Int)
          rw [if_pos c]
          omega
  · rw [if_neg (by omega), if_pos (by omega)] at hp; exact hp σ (scX.rf σ)
theorem dropsV_rg {σ : GS} (hI : Inv σ) (a0 a1 a2 : Int) : rg (dropsV σ a0 a1 a2) := by
  unfold dropsV
  have hn := hI.F.1.1
  split
  · decide
  · split
    · decide
    · have hd := dS_6 σ a0 (a := a1.toNat) (n := (σ 3 2).toNat) (m := 2 ^ (σ 3 2).toNat) (by omega) (by omega) (Nat.le_refl _)
      have := frac_rg (S := dS σ a0 a1.toNat (σ 3 2).toNat (2 ^ (σ 3 2).toNat)) (T := 10 ^ (σ 3 2).toNat) (by omega) (by omega) a2
      omega
theorem q_drops {σ : GS} {a0 a1 a2 : Int} {K : Int → Int → GS → Prop} (hI : Inv σ) (h0 : rg a0) (h1 : rg a1) (h2 : rg a2) (hK : ∀ z σ', rg z → Inv σ' → K z z σ') : vc_X9_drops σ a0 a1 a2 (fun z σ1 => vc_X10_drops σ1 a0 a1 a2 (fun z' => K z z' σ1)) := by
  refine s_X9_drops hI h0 h1 h2 (fun σ' s => s_X10_drops (hI.scX s) h0 h1 h2 ?_)
  rw [dropsV_c s]
  exact hK _ _ (dropsV_rg hI a0 a1 a2) (hI.scX s)
