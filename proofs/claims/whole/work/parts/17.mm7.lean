abbrev rm_X10_gain : Room := { frames := 4, cells := 0, slots := 0, locals := 101 }
def vc_X10_gain (σ : GS) (a0 : Int) (a1 : Int) (a2 : Int) (a3 : Int) (Post : Int → GS → Prop) : Prop :=
  vc_X10_layTrial σ  (fun (σ1 : GS) =>
    (0 ≤ (5 + a0) ∧ (5 + a0) < 10) ∧
  ((rg a2) ∧
  ((¬ a2 = 1 →
    ((0 ≤ (5 + a1) ∧ (5 + a1) < 10) ∧
    ((rg a3) ∧
    ((¬ a3 = 1 →
      (vc_X10_cellsSeen (up2 (up2 σ1 54 (5 + a0).toNat ((σ1 54 (5 + a0).toNat) + 0)) 54 (5 + a1).toNat (((up2 σ1 54 (5 + a0).toNat ((σ1 54 (5 + a0).toNat) + 0)) 54 (5 + a1).toNat) + 0)) 1 a0 0 (fun (z8 : Int) =>
        vc_X10_cellsSeen (up2 (up2 σ1 54 (5 + a0).toNat ((σ1 54 (5 + a0).toNat) + 0)) 54 (5 + a1).toNat (((up2 σ1 54 (5 + a0).toNat ((σ1 54 (5 + a0).toNat) + 0)) 54 (5 + a1).toNat) + 0)) 1 (a1 + 1) 0 (fun (z9 : Int) =>
        Post (((2 * z8) - z9) - a2) (up2 (up2 σ1 54 (5 + a0).toNat ((σ1 54 (5 + a0).toNat) + 0)) 54 (5 + a1).toNat (((up2 σ1 54 (5 + a0).toNat ((σ1 54 (5 + a0).toNat) + 0)) 54 (5 + a1).toNat) + 0)))))) ∧
    (a3 = 1 →
      (vc_X10_canSpread (up2 σ1 54 (5 + a0).toNat ((σ1 54 (5 + a0).toNat) + 0)) 1 a1 (fun (z10 : Int) =>
        (rg z10) ∧
      ((z10 = 0 →
        (vc_X10_cellsSeen (up2 (up2 σ1 54 (5 + a0).toNat ((σ1 54 (5 + a0).toNat) + 0)) 54 (5 + a1).toNat (((up2 σ1 54 (5 + a0).toNat ((σ1 54 (5 + a0).toNat) + 0)) 54 (5 + a1).toNat) + 0)) 1 a0 0 (fun (z13 : Int) =>
          vc_X10_cellsSeen (up2 (up2 σ1 54 (5 + a0).toNat ((σ1 54 (5 + a0).toNat) + 0)) 54 (5 + a1).toNat (((up2 σ1 54 (5 + a0).toNat ((σ1 54 (5 + a0).toNat) + 0)) 54 (5 + a1).toNat) + 0)) 1 (a1 + 1) 0 (fun (z14 : Int) =>
          Post (((2 * z13) - z14) - a2) (up2 (up2 σ1 54 (5 + a0).toNat ((σ1 54 (5 + a0).toNat) + 0)) 54 (5 + a1).toNat (((up2 σ1 54 (5 + a0).toNat ((σ1 54 (5 + a0).toNat) + 0)) 54 (5 + a1).toNat) + 0)))))) ∧
      (¬ z10 = 0 →
        (vc_X10_cellsSeen (up2 (up2 σ1 54 (5 + a0).toNat ((σ1 54 (5 + a0).toNat) + 0)) 54 (5 + a1).toNat (((up2 σ1 54 (5 + a0).toNat ((σ1 54 (5 + a0).toNat) + 0)) 54 (5 + a1).toNat) + 1)) 1 a0 0 (fun (z15 : Int) =>
          vc_X10_cellsSeen (up2 (up2 σ1 54 (5 + a0).toNat ((σ1 54 (5 + a0).toNat) + 0)) 54 (5 + a1).toNat (((up2 σ1 54 (5 + a0).toNat ((σ1 54 (5 + a0).toNat) + 0)) 54 (5 + a1).toNat) + 1)) 1 (a1 + 1) 0 (fun (z16 : Int) =>
          Post (((2 * z15) - z16) - a2) (up2 (up2 σ1 54 (5 + a0).toNat ((σ1 54 (5 + a0).toNat) + 0)) 54 (5 + a1).toNat (((up2 σ1 54 (5 + a0).toNat ((σ1 54 (5 + a0).toNat) + 0)) 54 (5 + a1).toNat) + 1)))))))))))))) ∧
  (a2 = 1 →
    (vc_X10_canSpread σ1 1 a0 (fun (z17 : Int) =>
      (rg z17) ∧
    ((z17 = 0 →
      ((0 ≤ (5 + a1) ∧ (5 + a1) < 10) ∧
      ((rg a3) ∧
      ((¬ a3 = 1 →
        (vc_X10_cellsSeen (up2 (up2 σ1 54 (5 + a0).toNat ((σ1 54 (5 + a0).toNat) + 0)) 54 (5 + a1).toNat (((up2 σ1 54 (5 + a0).toNat ((σ1 54 (5 + a0).toNat) + 0)) 54 (5 + a1).toNat) + 0)) 1 a0 0 (fun (z23 : Int) =>
          vc_X10_cellsSeen (up2 (up2 σ1 54 (5 + a0).toNat ((σ1 54 (5 + a0).toNat) + 0)) 54 (5 + a1).toNat (((up2 σ1 54 (5 + a0).toNat ((σ1 54 (5 + a0).toNat) + 0)) 54 (5 + a1).toNat) + 0)) 1 (a1 + 1) 0 (fun (z24 : Int) =>
          Post (((2 * z23) - z24) - a2) (up2 (up2 σ1 54 (5 + a0).toNat ((σ1 54 (5 + a0).toNat) + 0)) 54 (5 + a1).toNat (((up2 σ1 54 (5 + a0).toNat ((σ1 54 (5 + a0).toNat) + 0)) 54 (5 + a1).toNat) + 0)))))) ∧
      (a3 = 1 →
        (vc_X10_canSpread (up2 σ1 54 (5 + a0).toNat ((σ1 54 (5 + a0).toNat) + 0)) 1 a1 (fun (z25 : Int) =>
          (rg z25) ∧
        ((z25 = 0 →
          (vc_X10_cellsSeen (up2 (up2 σ1 54 (5 + a0).toNat ((σ1 54 (5 + a0).toNat) + 0)) 54 (5 + a1).toNat (((up2 σ1 54 (5 + a0).toNat ((σ1 54 (5 + a0).toNat) + 0)) 54 (5 + a1).toNat) + 0)) 1 a0 0 (fun (z28 : Int) =>
            vc_X10_cellsSeen (up2 (up2 σ1 54 (5 + a0).toNat ((σ1 54 (5 + a0).toNat) + 0)) 54 (5 + a1).toNat (((up2 σ1 54 (5 + a0).toNat ((σ1 54 (5 + a0).toNat) + 0)) 54 (5 + a1).toNat) + 0)) 1 (a1 + 1) 0 (fun (z29 : Int) =>
            Post (((2 * z28) - z29) - a2) (up2 (up2 σ1 54 (5 + a0).toNat ((σ1 54 (5 + a0).toNat) + 0)) 54 (5 + a1).toNat (((up2 σ1 54 (5 + a0).toNat ((σ1 54 (5 + a0).toNat) + 0)) 54 (5 + a1).toNat) + 0)))))) ∧
        (¬ z25 = 0 →
          (vc_X10_cellsSeen (up2 (up2 σ1 54 (5 + a0).toNat ((σ1 54 (5 + a0).toNat) + 0)) 54 (5 + a1).toNat (((up2 σ1 54 (5 + a0).toNat ((σ1 54 (5 + a0).toNat) + 0)) 54 (5 + a1).toNat) + 1)) 1 a0 0 (fun (z30 : Int) =>
            vc_X10_cellsSeen (up2 (up2 σ1 54 (5 + a0).toNat ((σ1 54 (5 + a0).toNat) + 0)) 54 (5 + a1).toNat (((up2 σ1 54 (5 + a0).toNat ((σ1 54 (5 + a0).toNat) + 0)) 54 (5 + a1).toNat) + 1)) 1 (a1 + 1) 0 (fun (z31 : Int) =>
            Post (((2 * z30) - z31) - a2) (up2 (up2 σ1 54 (5 + a0).toNat ((σ1 54 (5 + a0).toNat) + 0)) 54 (5 + a1).toNat (((up2 σ1 54 (5 + a0).toNat ((σ1 54 (5 + a0).toNat) + 0)) 54 (5 + a1).toNat) + 1)))))))))))))) ∧
    (¬ z17 = 0 →
      ((0 ≤ (5 + a1) ∧ (5 + a1) < 10) ∧
      ((rg a3) ∧
      ((¬ a3 = 1 →
        (vc_X10_cellsSeen (up2 (up2 σ1 54 (5 + a0).toNat ((σ1 54 (5 + a0).toNat) + 1)) 54 (5 + a1).toNat (((up2 σ1 54 (5 + a0).toNat ((σ1 54 (5 + a0).toNat) + 1)) 54 (5 + a1).toNat) + 0)) 1 a0 0 (fun (z35 : Int) =>
          vc_X10_cellsSeen (up2 (up2 σ1 54 (5 + a0).toNat ((σ1 54 (5 + a0).toNat) + 1)) 54 (5 + a1).toNat (((up2 σ1 54 (5 + a0).toNat ((σ1 54 (5 + a0).toNat) + 1)) 54 (5 + a1).toNat) + 0)) 1 (a1 + 1) 0 (fun (z36 : Int) =>
          Post (((2 * z35) - z36) - a2) (up2 (up2 σ1 54 (5 + a0).toNat ((σ1 54 (5 + a0).toNat) + 1)) 54 (5 + a1).toNat (((up2 σ1 54 (5 + a0).toNat ((σ1 54 (5 + a0).toNat) + 1)) 54 (5 + a1).toNat) + 0)))))) ∧
      (a3 = 1 →
        (vc_X10_canSpread (up2 σ1 54 (5 + a0).toNat ((σ1 54 (5 + a0).toNat) + 1)) 1 a1 (fun (z37 : Int) =>
          (rg z37) ∧
        ((z37 = 0 →
          (vc_X10_cellsSeen (up2 (up2 σ1 54 (5 + a0).toNat ((σ1 54 (5 + a0).toNat) + 1)) 54 (5 + a1).toNat (((up2 σ1 54 (5 + a0).toNat ((σ1 54 (5 + a0).toNat) + 1)) 54 (5 + a1).toNat) + 0)) 1 a0 0 (fun (z40 : Int) =>
            vc_X10_cellsSeen (up2 (up2 σ1 54 (5 + a0).toNat ((σ1 54 (5 + a0).toNat) + 1)) 54 (5 + a1).toNat (((up2 σ1 54 (5 + a0).toNat ((σ1 54 (5 + a0).toNat) + 1)) 54 (5 + a1).toNat) + 0)) 1 (a1 + 1) 0 (fun (z41 : Int) =>
            Post (((2 * z40) - z41) - a2) (up2 (up2 σ1 54 (5 + a0).toNat ((σ1 54 (5 + a0).toNat) + 1)) 54 (5 + a1).toNat (((up2 σ1 54 (5 + a0).toNat ((σ1 54 (5 + a0).toNat) + 1)) 54 (5 + a1).toNat) + 0)))))) ∧
        (¬ z37 = 0 →
          (vc_X10_cellsSeen (up2 (up2 σ1 54 (5 + a0).toNat ((σ1 54 (5 + a0).toNat) + 1)) 54 (5 + a1).toNat (((up2 σ1 54 (5 + a0).toNat ((σ1 54 (5 + a0).toNat) + 1)) 54 (5 + a1).toNat) + 1)) 1 a0 0 (fun (z42 : Int) =>
            vc_X10_cellsSeen (up2 (up2 σ1 54 (5 + a0).toNat ((σ1 54 (5 + a0).toNat) + 1)) 54 (5 + a1).toNat (((up2 σ1 54 (5 + a0).toNat ((σ1 54 (5 + a0).toNat) + 1)) 54 (5 + a1).toNat) + 1)) 1 (a1 + 1) 0 (fun (z43 : Int) =>
            Post (((2 * z42) - z43) - a2) (up2 (up2 σ1 54 (5 + a0).toNat ((σ1 54 (5 + a0).toNat) + 1)) 54 (5 + a1).toNat (((up2 σ1 54 (5 + a0).toNat ((σ1 54 (5 + a0).toNat) + 1)) 54 (5 + a1).toNat) + 1)))))))))))))))))))))
set_option maxHeartbeats 4000000 in
set_option maxRecDepth 10000 in
theorem m_X10_gain (l : Launch) {ad : Nat → Nat} {D : va_G} {cI cZ cG : ClassId} (hI : Ij ad) {σ : GS} {a0 : Int} {a1 : Int} {a2 : Int} {a3 : Int} {Post : Int → GS → Prop} (h : vc_X10_gain σ a0 a1 a2 a3 Post) : Met l yX10_gain (wX yX10_gain cX10_gain 5 (some .int)) rm_X10_gain (va_Pc [.ref (ad 51), .int (iI a0), .int (iI a1), .int (iI a2), .int (iI a3)] (Wd ad D cI cZ cG σ)) (QI ad D cI cZ cG Post) 0 0 (Aw ad) := by
  refine met_V (own := RX10) hI (by decide +kernel) rfl (Nat.le_of_ble_eq_true rfl) ?_
  intro p e s m args below meth c C
  unfold vc_X10_gain at h
  show V p l e rm_X10_gain s m args below meth c ad D cI cZ cG (Aw ad) 5 0 0 (MQ below (QI ad D cI cZ cG Post) args s 0 0 (Aw ad)) σ 0 [(0, .ref (ad 51)), (1, .int (iI a0)), (2, .int (iI a1)), (3, .int (iI a2)), (4, .int (iI a3))] []
  refine x_aload_n (q := 1) (i := 0) C dX10_gain_0 rfl 0 rfl rfl ?_
  refine x_virV (q := 4) C (Nat.le_of_ble_eq_true rfl) ly_51 rfl ck_RX10_189 vk_X10_layTrial (m_X10_layTrial l hI h) ⟨⟨rfl, rfl⟩, ⟨Nat.le_of_ble_eq_true rfl, Nat.le_of_ble_eq_true rfl⟩, ⟨Nat.zero_le _, Nat.zero_le _⟩⟩ dX10_gain_1 rfl rfl (Nat.le_of_ble_eq_true rfl) rfl (fun σ1 h => ?_)
  refine x_aload_n (q := 5) (i := 0) C dX10_gain_4 rfl 0 rfl rfl ?_
  refine x_getR (q := 8) (c0 := 54) C (Nat.le_of_ble_eq_true rfl) ly_51 fk_RX10_16 rfl dX10_gain_5 rfl ?_
  refine x_iconst (q := 9) (z := 5) C dX10_gain_8 rfl rfl ?_
  refine x_iload_n (q := 10) (i := 1) C dX10_gain_9 rfl 1 rfl rfl ?_
  refine x_iadd (q := 11) C dX10_gain_10  rfl ?_
  refine x_dup2 (q := 12) C dX10_gain_11 rfl rfl rfl ?_
  obtain ⟨o2, h⟩ := h
  refine x_iald (q := 13) C (Nat.le_of_ble_eq_true rfl) ly_54 dX10_gain_12 (ix o2 rfl) (Nat.le_of_ble_eq_true rfl) rfl ?_
  refine x_iload_n (q := 14) (i := 3) C dX10_gain_13 rfl 3 rfl rfl ?_
  refine x_iconst (q := 15) (z := 1) C dX10_gain_14 rfl rfl ?_
  obtain ⟨o3, h⟩ := h
  refine x_icmp_ne (q := 18) (tgt := 31) C dX10_gain_15 rfl ⟨o3, by decide⟩ rfl (fun c4 => ?_) (fun c4 => ?_)
  · have h := h.1 c4
    refine x_iconst (q := 32) (z := 0) C dX10_gain_31 rfl rfl ?_
    refine x_iadd (q := 33) C dX10_gain_32  rfl ?_
    refine x_iast (q := 34) C (Nat.le_of_ble_eq_true rfl) ly_54 dX10_gain_33 (ix o2 rfl) (Nat.le_of_ble_eq_true rfl)  rfl ?_
    refine x_aload_n (q := 35) (i := 0) C dX10_gain_34 rfl 0 rfl rfl ?_
    refine x_getR (q := 38) (c0 := 54) C (Nat.le_of_ble_eq_true rfl) ly_51 fk_RX10_16 rfl dX10_gain_35 rfl ?_
    refine x_iconst (q := 39) (z := 5) C dX10_gain_38 rfl rfl ?_
    refine x_iload_n (q := 40) (i := 2) C dX10_gain_39 rfl 2 rfl rfl ?_
    refine x_iadd (q := 41) C dX10_gain_40  rfl ?_
    refine x_dup2 (q := 42) C dX10_gain_41 rfl rfl rfl ?_
    obtain ⟨o5, h⟩ := h
    refine x_iald (q := 43) C (Nat.le_of_ble_eq_true rfl) ly_54 dX10_gain_42 (ix o5 rfl) (Nat.le_of_ble_eq_true rfl) rfl ?_
    refine x_iload (q := 45) C dX10_gain_43 4 rfl rfl ?_
    refine x_iconst (q := 46) (z := 1) C dX10_gain_45 rfl rfl ?_
    obtain ⟨o6, h⟩ := h
    refine x_icmp_ne (q := 49) (tgt := 62) C dX10_gain_46 rfl ⟨o6, by decide⟩ rfl (fun c7 => ?_) (fun c7 => ?_)
    · have h := h.1 c7
      refine x_iconst (q := 63) (z := 0) C dX10_gain_62 rfl rfl ?_
      refine x_iadd (q := 64) C dX10_gain_63  rfl ?_
      refine x_iast (q := 65) C (Nat.le_of_ble_eq_true rfl) ly_54 dX10_gain_64 (ix o5 rfl) (Nat.le_of_ble_eq_true rfl)  rfl ?_
      refine x_iconst (q := 66) (z := 2) C dX10_gain_65 rfl rfl ?_
      refine x_aload_n (q := 67) (i := 0) C dX10_gain_66 rfl 0 rfl rfl ?_
      refine x_iconst (q := 68) (z := 1) C dX10_gain_67 rfl rfl ?_
      refine x_iload_n (q := 69) (i := 1) C dX10_gain_68 rfl 1 rfl rfl ?_
      refine x_iconst (q := 70) (z := 0) C dX10_gain_69 rfl rfl ?_
      refine x_virI (q := 73) C (Nat.le_of_ble_eq_true rfl) ly_51 rfl ck_RX10_130 vk_X10_cellsSeen (m_X10_cellsSeen l hI h) ⟨⟨rfl, rfl⟩, ⟨Nat.le_of_ble_eq_true rfl, Nat.le_of_ble_eq_true rfl⟩, ⟨Nat.zero_le _, Nat.zero_le _⟩⟩ dX10_gain_70 rfl rfl (Nat.le_of_ble_eq_true rfl) rfl (fun z8 σ8 h => ?_)
      rw [h.1]
      have h := h.2
      refine x_imul (q := 74) C dX10_gain_73  rfl ?_
      refine x_aload_n (q := 75) (i := 0) C dX10_gain_74 rfl 0 rfl rfl ?_
      refine x_iconst (q := 76) (z := 1) C dX10_gain_75 rfl rfl ?_
      refine x_iload_n (q := 77) (i := 2) C dX10_gain_76 rfl 2 rfl rfl ?_
      refine x_iconst (q := 78) (z := 1) C dX10_gain_77 rfl rfl ?_
      refine x_iadd (q := 79) C dX10_gain_78  rfl ?_
      refine x_iconst (q := 80) (z := 0) C dX10_gain_79 rfl rfl ?_
      refine x_virI (q := 83) C (Nat.le_of_ble_eq_true rfl) ly_51 rfl ck_RX10_130 vk_X10_cellsSeen (m_X10_cellsSeen l hI h) ⟨⟨rfl, rfl⟩, ⟨Nat.le_of_ble_eq_true rfl, Nat.le_of_ble_eq_true rfl⟩, ⟨Nat.zero_le _, Nat.zero_le _⟩⟩ dX10_gain_80 rfl rfl (Nat.le_of_ble_eq_true rfl) rfl (fun z9 σ9 h => ?_)
      rw [h.1]
      have h := h.2
      refine x_isub (q := 84) C dX10_gain_83  rfl ?_
      refine x_iload_n (q := 85) (i := 3) C dX10_gain_84 rfl 3 rfl rfl ?_
      refine x_isub (q := 86) C dX10_gain_85  rfl ?_
      exact x_iret C dX10_gain_86 h
    · have h := h.2 c7
      refine x_aload_n (q := 50) (i := 0) C dX10_gain_49 rfl 0 rfl rfl ?_
      refine x_iconst (q := 51) (z := 1) C dX10_gain_50 rfl rfl ?_
      refine x_iload_n (q := 52) (i := 2) C dX10_gain_51 rfl 2 rfl rfl ?_
      refine x_virI (q := 55) C (Nat.le_of_ble_eq_true rfl) ly_51 rfl ck_RX10_142 vk_X10_canSpread (m_X10_canSpread l hI h) ⟨⟨rfl, rfl⟩, ⟨Nat.le_of_ble_eq_true rfl, Nat.le_of_ble_eq_true rfl⟩, ⟨Nat.zero_le _, Nat.zero_le _⟩⟩ dX10_gain_52 rfl rfl (Nat.le_of_ble_eq_true rfl) rfl (fun z10 σ10 h => ?_)
      rw [h.1]
      have h := h.2
      obtain ⟨o11, h⟩ := h
      refine x_if_eq (q := 58) (tgt := 62) C dX10_gain_55 rfl o11 rfl (fun c12 => ?_) (fun c12 => ?_)
      · have h := h.1 c12
        refine x_iconst (q := 63) (z := 0) C dX10_gain_62 rfl rfl ?_
        refine x_iadd (q := 64) C dX10_gain_63  rfl ?_
        refine x_iast (q := 65) C (Nat.le_of_ble_eq_true rfl) ly_54 dX10_gain_64 (ix o5 rfl) (Nat.le_of_ble_eq_true rfl)  rfl ?_
        refine x_iconst (q := 66) (z := 2) C dX10_gain_65 rfl rfl ?_
        refine x_aload_n (q := 67) (i := 0) C dX10_gain_66 rfl 0 rfl rfl ?_
        refine x_iconst (q := 68) (z := 1) C dX10_gain_67 rfl rfl ?_
        refine x_iload_n (q := 69) (i := 1) C dX10_gain_68 rfl 1 rfl rfl ?_
        refine x_iconst (q := 70) (z := 0) C dX10_gain_69 rfl rfl ?_
        refine x_virI (q := 73) C (Nat.le_of_ble_eq_true rfl) ly_51 rfl ck_RX10_130 vk_X10_cellsSeen (m_X10_cellsSeen l hI h) ⟨⟨rfl, rfl⟩, ⟨Nat.le_of_ble_eq_true rfl, Nat.le_of_ble_eq_true rfl⟩, ⟨Nat.zero_le _, Nat.zero_le _⟩⟩ dX10_gain_70 rfl rfl (Nat.le_of_ble_eq_true rfl) rfl (fun z13 σ13 h => ?_)
        rw [h.1]
        have h := h.2
        refine x_imul (q := 74) C dX10_gain_73  rfl ?_
        refine x_aload_n (q := 75) (i := 0) C dX10_gain_74 rfl 0 rfl rfl ?_
        refine x_iconst (q := 76) (z := 1) C dX10_gain_75 rfl rfl ?_
        refine x_iload_n (q := 77) (i := 2) C dX10_gain_76 rfl 2 rfl rfl ?_
        refine x_iconst (q := 78) (z := 1) C dX10_gain_77 rfl rfl ?_
        refine x_iadd (q := 79) C dX10_gain_78  rfl ?_
        refine x_iconst (q := 80) (z := 0) C dX10_gain_79 rfl rfl ?_
        refine x_virI (q := 83) C (Nat.le_of_ble_eq_true rfl) ly_51 rfl ck_RX10_130 vk_X10_cellsSeen (m_X10_cellsSeen l hI h) ⟨⟨rfl, rfl⟩, ⟨Nat.le_of_ble_eq_true rfl, Nat.le_of_ble_eq_true rfl⟩, ⟨Nat.zero_le _, Nat.zero_le _⟩⟩ dX10_gain_80 rfl rfl (Nat.le_of_ble_eq_true rfl) rfl (fun z14 σ14 h => ?_)
        rw [h.1]
        have h := h.2
        refine x_isub (q := 84) C dX10_gain_83  rfl ?_
        refine x_iload_n (q := 85) (i := 3) C dX10_gain_84 rfl 3 rfl rfl ?_
        refine x_isub (q := 86) C dX10_gain_85  rfl ?_
        exact x_iret C dX10_gain_86 h
      · have h := h.2 c12
        refine x_iconst (q := 59) (z := 1) C dX10_gain_58 rfl rfl ?_
        refine x_goto (tgt := 63) C dX10_gain_59 rfl ?_
        refine x_iadd (q := 64) C dX10_gain_63  rfl ?_
        refine x_iast (q := 65) C (Nat.le_of_ble_eq_true rfl) ly_54 dX10_gain_64 (ix o5 rfl) (Nat.le_of_ble_eq_true rfl)  rfl ?_
        refine x_iconst (q := 66) (z := 2) C dX10_gain_65 rfl rfl ?_
        refine x_aload_n (q := 67) (i := 0) C dX10_gain_66 rfl 0 rfl rfl ?_
        refine x_iconst (q := 68) (z := 1) C dX10_gain_67 rfl rfl ?_
        refine x_iload_n (q := 69) (i := 1) C dX10_gain_68 rfl 1 rfl rfl ?_
        refine x_iconst (q := 70) (z := 0) C dX10_gain_69 rfl rfl ?_
        refine x_virI (q := 73) C (Nat.le_of_ble_eq_true rfl) ly_51 rfl ck_RX10_130 vk_X10_cellsSeen (m_X10_cellsSeen l hI h) ⟨⟨rfl, rfl⟩, ⟨Nat.le_of_ble_eq_true rfl, Nat.le_of_ble_eq_true rfl⟩, ⟨Nat.zero_le _, Nat.zero_le _⟩⟩ dX10_gain_70 rfl rfl (Nat.le_of_ble_eq_true rfl) rfl (fun z15 σ15 h => ?_)
        rw [h.1]
        have h := h.2
        refine x_imul (q := 74) C dX10_gain_73  rfl ?_
        refine x_aload_n (q := 75) (i := 0) C dX10_gain_74 rfl 0 rfl rfl ?_
        refine x_iconst (q := 76) (z := 1) C dX10_gain_75 rfl rfl ?_
        refine x_iload_n (q := 77) (i := 2) C dX10_gain_76 rfl 2 rfl rfl ?_
        refine x_iconst (q := 78) (z := 1) C dX10_gain_77 rfl rfl ?_
        refine x_iadd (q := 79) C dX10_gain_78  rfl ?_
        refine x_iconst (q := 80) (z := 0) C dX10_gain_79 rfl rfl ?_
        refine x_virI (q := 83) C (Nat.le_of_ble_eq_true rfl) ly_51 rfl ck_RX10_130 vk_X10_cellsSeen (m_X10_cellsSeen l hI h) ⟨⟨rfl, rfl⟩, ⟨Nat.le_of_ble_eq_true rfl, Nat.le_of_ble_eq_true rfl⟩, ⟨Nat.zero_le _, Nat.zero_le _⟩⟩ dX10_gain_80 rfl rfl (Nat.le_of_ble_eq_true rfl) rfl (fun z16 σ16 h => ?_)
        rw [h.1]
        have h := h.2
        refine x_isub (q := 84) C dX10_gain_83  rfl ?_
        refine x_iload_n (q := 85) (i := 3) C dX10_gain_84 rfl 3 rfl rfl ?_
        refine x_isub (q := 86) C dX10_gain_85  rfl ?_
        exact x_iret C dX10_gain_86 h
  · have h := h.2 c4
    refine x_aload_n (q := 19) (i := 0) C dX10_gain_18 rfl 0 rfl rfl ?_
    refine x_iconst (q := 20) (z := 1) C dX10_gain_19 rfl rfl ?_
    refine x_iload_n (q := 21) (i := 1) C dX10_gain_20 rfl 1 rfl rfl ?_
    refine x_virI (q := 24) C (Nat.le_of_ble_eq_true rfl) ly_51 rfl ck_RX10_142 vk_X10_canSpread (m_X10_canSpread l hI h) ⟨⟨rfl, rfl⟩, ⟨Nat.le_of_ble_eq_true rfl, Nat.le_of_ble_eq_true rfl⟩, ⟨Nat.zero_le _, Nat.zero_le _⟩⟩ dX10_gain_21 rfl rfl (Nat.le_of_ble_eq_true rfl) rfl (fun z17 σ17 h => ?_)
    rw [h.1]
    have h := h.2
    obtain ⟨o18, h⟩ := h
    refine x_if_eq (q := 27) (tgt := 31) C dX10_gain_24 rfl o18 rfl (fun c19 => ?_) (fun c19 => ?_)
    · have h := h.1 c19
      refine x_iconst (q := 32) (z := 0) C dX10_gain_31 rfl rfl ?_
      refine x_iadd (q := 33) C dX10_gain_32  rfl ?_
      refine x_iast (q := 34) C (Nat.le_of_ble_eq_true rfl) ly_54 dX10_gain_33 (ix o2 rfl) (Nat.le_of_ble_eq_true rfl)  rfl ?_
      refine x_aload_n (q := 35) (i := 0) C dX10_gain_34 rfl 0 rfl rfl ?_
      refine x_getR (q := 38) (c0 := 54) C (Nat.le_of_ble_eq_true rfl) ly_51 fk_RX10_16 rfl dX10_gain_35 rfl ?_
      refine x_iconst (q := 39) (z := 5) C dX10_gain_38 rfl rfl ?_
      refine x_iload_n (q := 40) (i := 2) C dX10_gain_39 rfl 2 rfl rfl ?_
      refine x_iadd (q := 41) C dX10_gain_40  rfl ?_
      refine x_dup2 (q := 42) C dX10_gain_41 rfl rfl rfl ?_
      obtain ⟨o20, h⟩ := h
      refine x_iald (q := 43) C (Nat.le_of_ble_eq_true rfl) ly_54 dX10_gain_42 (ix o20 rfl) (Nat.le_of_ble_eq_true rfl) rfl ?_
      refine x_iload (q := 45) C dX10_gain_43 4 rfl rfl ?_
      refine x_iconst (q := 46) (z := 1) C dX10_gain_45 rfl rfl ?_
      obtain ⟨o21, h⟩ := h
      refine x_icmp_ne (q := 49) (tgt := 62) C dX10_gain_46 rfl ⟨o21, by decide⟩ rfl (fun c22 => ?_) (fun c22 => ?_)
      · have h := h.1 c22
        refine x_iconst (q := 63) (z := 0) C dX10_gain_62 rfl rfl ?_
        refine x_iadd (q := 64) C dX10_gain_63  rfl ?_
        refine x_iast (q := 65) C (Nat.le_of_ble_eq_true rfl) ly_54 dX10_gain_64 (ix o20 rfl) (Nat.le_of_ble_eq_true rfl)  rfl ?_
        refine x_iconst (q := 66) (z := 2) C dX10_gain_65 rfl rfl ?_
        refine x_aload_n (q := 67) (i := 0) C dX10_gain_66 rfl 0 rfl rfl ?_
        refine x_iconst (q := 68) (z := 1) C dX10_gain_67 rfl rfl ?_
        refine x_iload_n (q := 69) (i := 1) C dX10_gain_68 rfl 1 rfl rfl ?_
        refine x_iconst (q := 70) (z := 0) C dX10_gain_69 rfl rfl ?_
        refine x_virI (q := 73) C (Nat.le_of_ble_eq_true rfl) ly_51 rfl ck_RX10_130 vk_X10_cellsSeen (m_X10_cellsSeen l hI h) ⟨⟨rfl, rfl⟩, ⟨Nat.le_of_ble_eq_true rfl, Nat.le_of_ble_eq_true rfl⟩, ⟨Nat.zero_le _, Nat.zero_le _⟩⟩ dX10_gain_70 rfl rfl (Nat.le_of_ble_eq_true rfl) rfl (fun z23 σ23 h => ?_)
        rw [h.1]
        have h := h.2
        refine x_imul (q := 74) C dX10_gain_73  rfl ?_
        refine x_aload_n (q := 75) (i := 0) C dX10_gain_74 rfl 0 rfl rfl ?_
        refine x_iconst (q := 76) (z := 1) C dX10_gain_75 rfl rfl ?_
        refine x_iload_n (q := 77) (i := 2) C dX10_gain_76 rfl 2 rfl rfl ?_
        refine x_iconst (q := 78) (z := 1) C dX10_gain_77 rfl rfl ?_
        refine x_iadd (q := 79) C dX10_gain_78  rfl ?_
        refine x_iconst (q := 80) (z := 0) C dX10_gain_79 rfl rfl ?_
        refine x_virI (q := 83) C (Nat.le_of_ble_eq_true rfl) ly_51 rfl ck_RX10_130 vk_X10_cellsSeen (m_X10_cellsSeen l hI h) ⟨⟨rfl, rfl⟩, ⟨Nat.le_of_ble_eq_true rfl, Nat.le_of_ble_eq_true rfl⟩, ⟨Nat.zero_le _, Nat.zero_le _⟩⟩ dX10_gain_80 rfl rfl (Nat.le_of_ble_eq_true rfl) rfl (fun z24 σ24 h => ?_)
        rw [h.1]
        have h := h.2
        refine x_isub (q := 84) C dX10_gain_83  rfl ?_
        refine x_iload_n (q := 85) (i := 3) C dX10_gain_84 rfl 3 rfl rfl ?_
        refine x_isub (q := 86) C dX10_gain_85  rfl ?_
        exact x_iret C dX10_gain_86 h
      · have h := h.2 c22
        refine x_aload_n (q := 50) (i := 0) C dX10_gain_49 rfl 0 rfl rfl ?_
        refine x_iconst (q := 51) (z := 1) C dX10_gain_50 rfl rfl ?_
        refine x_iload_n (q := 52) (i := 2) C dX10_gain_51 rfl 2 rfl rfl ?_
        refine x_virI (q := 55) C (Nat.le_of_ble_eq_true rfl) ly_51 rfl ck_RX10_142 vk_X10_canSpread (m_X10_canSpread l hI h) ⟨⟨rfl, rfl⟩, ⟨Nat.le_of_ble_eq_true rfl, Nat.le_of_ble_eq_true rfl⟩, ⟨Nat.zero_le _, Nat.zero_le _⟩⟩ dX10_gain_52 rfl rfl (Nat.le_of_ble_eq_true rfl) rfl (fun z25 σ25 h => ?_)
        rw [h.1]
        have h := h.2
        obtain ⟨o26, h⟩ := h
        refine x_if_eq (q := 58) (tgt := 62) C dX10_gain_55 rfl o26 rfl (fun c27 => ?_) (fun c27 => ?_)
        · have h := h.1 c27
          refine x_iconst (q := 63) (z := 0) C dX10_gain_62 rfl rfl ?_
          refine x_iadd (q := 64) C dX10_gain_63  rfl ?_
          refine x_iast (q := 65) C (Nat.le_of_ble_eq_true rfl) ly_54 dX10_gain_64 (ix o20 rfl) (Nat.le_of_ble_eq_true rfl)  rfl ?_
          refine x_iconst (q := 66) (z := 2) C dX10_gain_65 rfl rfl ?_
          refine x_aload_n (q := 67) (i := 0) C dX10_gain_66 rfl 0 rfl rfl ?_
          refine x_iconst (q := 68) (z := 1) C dX10_gain_67 rfl rfl ?_
          refine x_iload_n (q := 69) (i := 1) C dX10_gain_68 rfl 1 rfl rfl ?_
          refine x_iconst (q := 70) (z := 0) C dX10_gain_69 rfl rfl ?_
          refine x_virI (q := 73) C (Nat.le_of_ble_eq_true rfl) ly_51 rfl ck_RX10_130 vk_X10_cellsSeen (m_X10_cellsSeen l hI h) ⟨⟨rfl, rfl⟩, ⟨Nat.le_of_ble_eq_true rfl, Nat.le_of_ble_eq_true rfl⟩, ⟨Nat.zero_le _, Nat.zero_le _⟩⟩ dX10_gain_70 rfl rfl (Nat.le_of_ble_eq_true rfl) rfl (fun z28 σ28 h => ?_)
          rw [h.1]
          have h := h.2
          refine x_imul (q := 74) C dX10_gain_73  rfl ?_
          refine x_aload_n (q := 75) (i := 0) C dX10_gain_74 rfl 0 rfl rfl ?_
          refine x_iconst (q := 76) (z := 1) C dX10_gain_75 rfl rfl ?_
          refine x_iload_n (q := 77) (i := 2) C dX10_gain_76 rfl 2 rfl rfl ?_
          refine x_iconst (q := 78) (z := 1) C dX10_gain_77 rfl rfl ?_
          refine x_iadd (q := 79) C dX10_gain_78  rfl ?_
          refine x_iconst (q := 80) (z := 0) C dX10_gain_79 rfl rfl ?_
          refine x_virI (q := 83) C (Nat.le_of_ble_eq_true rfl) ly_51 rfl ck_RX10_130 vk_X10_cellsSeen (m_X10_cellsSeen l hI h) ⟨⟨rfl, rfl⟩, ⟨Nat.le_of_ble_eq_true rfl, Nat.le_of_ble_eq_true rfl⟩, ⟨Nat.zero_le _, Nat.zero_le _⟩⟩ dX10_gain_80 rfl rfl (Nat.le_of_ble_eq_true rfl) rfl (fun z29 σ29 h => ?_)
          rw [h.1]
          have h := h.2
          refine x_isub (q := 84) C dX10_gain_83  rfl ?_
          refine x_iload_n (q := 85) (i := 3) C dX10_gain_84 rfl 3 rfl rfl ?_
          refine x_isub (q := 86) C dX10_gain_85  rfl ?_
          exact x_iret C dX10_gain_86 h
        · have h := h.2 c27
          refine x_iconst (q := 59) (z := 1) C dX10_gain_58 rfl rfl ?_
          refine x_goto (tgt := 63) C dX10_gain_59 rfl ?_
          refine x_iadd (q := 64) C dX10_gain_63  rfl ?_
          refine x_iast (q := 65) C (Nat.le_of_ble_eq_true rfl) ly_54 dX10_gain_64 (ix o20 rfl) (Nat.le_of_ble_eq_true rfl)  rfl ?_
          refine x_iconst (q := 66) (z := 2) C dX10_gain_65 rfl rfl ?_
          refine x_aload_n (q := 67) (i := 0) C dX10_gain_66 rfl 0 rfl rfl ?_
          refine x_iconst (q := 68) (z := 1) C dX10_gain_67 rfl rfl ?_
          refine x_iload_n (q := 69) (i := 1) C dX10_gain_68 rfl 1 rfl rfl ?_
          refine x_iconst (q := 70) (z := 0) C dX10_gain_69 rfl rfl ?_
          refine x_virI (q := 73) C (Nat.le_of_ble_eq_true rfl) ly_51 rfl ck_RX10_130 vk_X10_cellsSeen (m_X10_cellsSeen l hI h) ⟨⟨rfl, rfl⟩, ⟨Nat.le_of_ble_eq_true rfl, Nat.le_of_ble_eq_true rfl⟩, ⟨Nat.zero_le _, Nat.zero_le _⟩⟩ dX10_gain_70 rfl rfl (Nat.le_of_ble_eq_true rfl) rfl (fun z30 σ30 h => ?_)
          rw [h.1]
          have h := h.2
          refine x_imul (q := 74) C dX10_gain_73  rfl ?_
          refine x_aload_n (q := 75) (i := 0) C dX10_gain_74 rfl 0 rfl rfl ?_
          refine x_iconst (q := 76) (z := 1) C dX10_gain_75 rfl rfl ?_
          refine x_iload_n (q := 77) (i := 2) C dX10_gain_76 rfl 2 rfl rfl ?_
          refine x_iconst (q := 78) (z := 1) C dX10_gain_77 rfl rfl ?_
          refine x_iadd (q := 79) C dX10_gain_78  rfl ?_
          refine x_iconst (q := 80) (z := 0) C dX10_gain_79 rfl rfl ?_
          refine x_virI (q := 83) C (Nat.le_of_ble_eq_true rfl) ly_51 rfl ck_RX10_130 vk_X10_cellsSeen (m_X10_cellsSeen l hI h) ⟨⟨rfl, rfl⟩, ⟨Nat.le_of_ble_eq_true rfl, Nat.le_of_ble_eq_true rfl⟩, ⟨Nat.zero_le _, Nat.zero_le _⟩⟩ dX10_gain_80 rfl rfl (Nat.le_of_ble_eq_true rfl) rfl (fun z31 σ31 h => ?_)
          rw [h.1]
          have h := h.2
          refine x_isub (q := 84) C dX10_gain_83  rfl ?_
          refine x_iload_n (q := 85) (i := 3) C dX10_gain_84 rfl 3 rfl rfl ?_
          refine x_isub (q := 86) C dX10_gain_85  rfl ?_
          exact x_iret C dX10_gain_86 h
    · have h := h.2 c19
      refine x_iconst (q := 28) (z := 1) C dX10_gain_27 rfl rfl ?_
      refine x_goto (tgt := 32) C dX10_gain_28 rfl ?_
      refine x_iadd (q := 33) C dX10_gain_32  rfl ?_
      refine x_iast (q := 34) C (Nat.le_of_ble_eq_true rfl) ly_54 dX10_gain_33 (ix o2 rfl) (Nat.le_of_ble_eq_true rfl)  rfl ?_
      refine x_aload_n (q := 35) (i := 0) C dX10_gain_34 rfl 0 rfl rfl ?_
      refine x_getR (q := 38) (c0 := 54) C (Nat.le_of_ble_eq_true rfl) ly_51 fk_RX10_16 rfl dX10_gain_35 rfl ?_
      refine x_iconst (q := 39) (z := 5) C dX10_gain_38 rfl rfl ?_
      refine x_iload_n (q := 40) (i := 2) C dX10_gain_39 rfl 2 rfl rfl ?_
      refine x_iadd (q := 41) C dX10_gain_40  rfl ?_
      refine x_dup2 (q := 42) C dX10_gain_41 rfl rfl rfl ?_
      obtain ⟨o32, h⟩ := h
      refine x_iald (q := 43) C (Nat.le_of_ble_eq_true rfl) ly_54 dX10_gain_42 (ix o32 rfl) (Nat.le_of_ble_eq_true rfl) rfl ?_
      refine x_iload (q := 45) C dX10_gain_43 4 rfl rfl ?_
      refine x_iconst (q := 46) (z := 1) C dX10_gain_45 rfl rfl ?_
      obtain ⟨o33, h⟩ := h
      refine x_icmp_ne (q := 49) (tgt := 62) C dX10_gain_46 rfl ⟨o33, by decide⟩ rfl (fun c34 => ?_) (fun c34 => ?_)
      · have h := h.1 c34
        refine x_iconst (q := 63) (z := 0) C dX10_gain_62 rfl rfl ?_
        refine x_iadd (q := 64) C dX10_gain_63  rfl ?_
        refine x_iast (q := 65) C (Nat.le_of_ble_eq_true rfl) ly_54 dX10_gain_64 (ix o32 rfl) (Nat.le_of_ble_eq_true rfl)  rfl ?_
        refine x_iconst (q := 66) (z := 2) C dX10_gain_65 rfl rfl ?_
        refine x_aload_n (q := 67) (i := 0) C dX10_gain_66 rfl 0 rfl rfl ?_
        refine x_iconst (q := 68) (z := 1) C dX10_gain_67 rfl rfl ?_
        refine x_iload_n (q := 69) (i := 1) C dX10_gain_68 rfl 1 rfl rfl ?_
        refine x_iconst (q := 70) (z := 0) C dX10_gain_69 rfl rfl ?_
        refine x_virI (q := 73) C (Nat.le_of_ble_eq_true rfl) ly_51 rfl ck_RX10_130 vk_X10_cellsSeen (m_X10_cellsSeen l hI h) ⟨⟨rfl, rfl⟩, ⟨Nat.le_of_ble_eq_true rfl, Nat.le_of_ble_eq_true rfl⟩, ⟨Nat.zero_le _, Nat.zero_le _⟩⟩ dX10_gain_70 rfl rfl (Nat.le_of_ble_eq_true rfl) rfl (fun z35 σ35 h => ?_)
        rw [h.1]
        have h := h.2
        refine x_imul (q := 74) C dX10_gain_73  rfl ?_
        refine x_aload_n (q := 75) (i := 0) C dX10_gain_74 rfl 0 rfl rfl ?_
        refine x_iconst (q := 76) (z := 1) C dX10_gain_75 rfl rfl ?_
        refine x_iload_n (q := 77) (i := 2) C dX10_gain_76 rfl 2 rfl rfl ?_
        refine x_iconst (q := 78) (z := 1) C dX10_gain_77 rfl rfl ?_
        refine x_iadd (q := 79) C dX10_gain_78  rfl ?_
        refine x_iconst (q := 80) (z := 0) C dX10_gain_79 rfl rfl ?_
        refine x_virI (q := 83) C (Nat.le_of_ble_eq_true rfl) ly_51 rfl ck_RX10_130 vk_X10_cellsSeen (m_X10_cellsSeen l hI h) ⟨⟨rfl, rfl⟩, ⟨Nat.le_of_ble_eq_true rfl, Nat.le_of_ble_eq_true rfl⟩, ⟨Nat.zero_le _, Nat.zero_le _⟩⟩ dX10_gain_80 rfl rfl (Nat.le_of_ble_eq_true rfl) rfl (fun z36 σ36 h => ?_)
        rw [h.1]
        have h := h.2
        refine x_isub (q := 84) C dX10_gain_83  rfl ?_
        refine x_iload_n (q := 85) (i := 3) C dX10_gain_84 rfl 3 rfl rfl ?_
        refine x_isub (q := 86) C dX10_gain_85  rfl ?_
        exact x_iret C dX10_gain_86 h
      · have h := h.2 c34
        refine x_aload_n (q := 50) (i := 0) C dX10_gain_49 rfl 0 rfl rfl ?_
        refine x_iconst (q := 51) (z := 1) C dX10_gain_50 rfl rfl ?_
        refine x_iload_n (q := 52) (i := 2) C dX10_gain_51 rfl 2 rfl rfl ?_
        refine x_virI (q := 55) C (Nat.le_of_ble_eq_true rfl) ly_51 rfl ck_RX10_142 vk_X10_canSpread (m_X10_canSpread l hI h) ⟨⟨rfl, rfl⟩, ⟨Nat.le_of_ble_eq_true rfl, Nat.le_of_ble_eq_true rfl⟩, ⟨Nat.zero_le _, Nat.zero_le _⟩⟩ dX10_gain_52 rfl rfl (Nat.le_of_ble_eq_true rfl) rfl (fun z37 σ37 h => ?_)
        rw [h.1]
        have h := h.2
        obtain ⟨o38, h⟩ := h
        refine x_if_eq (q := 58) (tgt := 62) C dX10_gain_55 rfl o38 rfl (fun c39 => ?_) (fun c39 => ?_)
        · have h := h.1 c39
          refine x_iconst (q := 63) (z := 0) C dX10_gain_62 rfl rfl ?_
          refine x_iadd (q := 64) C dX10_gain_63  rfl ?_
          refine x_iast (q := 65) C (Nat.le_of_ble_eq_true rfl) ly_54 dX10_gain_64 (ix o32 rfl) (Nat.le_of_ble_eq_true rfl)  rfl ?_
          refine x_iconst (q := 66) (z := 2) C dX10_gain_65 rfl rfl ?_
          refine x_aload_n (q := 67) (i := 0) C dX10_gain_66 rfl 0 rfl rfl ?_
          refine x_iconst (q := 68) (z := 1) C dX10_gain_67 rfl rfl ?_
          refine x_iload_n (q := 69) (i := 1) C dX10_gain_68 rfl 1 rfl rfl ?_
          refine x_iconst (q := 70) (z := 0) C dX10_gain_69 rfl rfl ?_
          refine x_virI (q := 73) C (Nat.le_of_ble_eq_true rfl) ly_51 rfl ck_RX10_130 vk_X10_cellsSeen (m_X10_cellsSeen l hI h) ⟨⟨rfl, rfl⟩, ⟨Nat.le_of_ble_eq_true rfl, Nat.le_of_ble_eq_true rfl⟩, ⟨Nat.zero_le _, Nat.zero_le _⟩⟩ dX10_gain_70 rfl rfl (Nat.le_of_ble_eq_true rfl) rfl (fun z40 σ40 h => ?_)
          rw [h.1]
          have h := h.2
          refine x_imul (q := 74) C dX10_gain_73  rfl ?_
          refine x_aload_n (q := 75) (i := 0) C dX10_gain_74 rfl 0 rfl rfl ?_
          refine x_iconst (q := 76) (z := 1) C dX10_gain_75 rfl rfl ?_
          refine x_iload_n (q := 77) (i := 2) C dX10_gain_76 rfl 2 rfl rfl ?_
          refine x_iconst (q := 78) (z := 1) C dX10_gain_77 rfl rfl ?_
          refine x_iadd (q := 79) C dX10_gain_78  rfl ?_
          refine x_iconst (q := 80) (z := 0) C dX10_gain_79 rfl rfl ?_
          refine x_virI (q := 83) C (Nat.le_of_ble_eq_true rfl) ly_51 rfl ck_RX10_130 vk_X10_cellsSeen (m_X10_cellsSeen l hI h) ⟨⟨rfl, rfl⟩, ⟨Nat.le_of_ble_eq_true rfl, Nat.le_of_ble_eq_true rfl⟩, ⟨Nat.zero_le _, Nat.zero_le _⟩⟩ dX10_gain_80 rfl rfl (Nat.le_of_ble_eq_true rfl) rfl (fun z41 σ41 h => ?_)
          rw [h.1]
          have h := h.2
          refine x_isub (q := 84) C dX10_gain_83  rfl ?_
          refine x_iload_n (q := 85) (i := 3) C dX10_gain_84 rfl 3 rfl rfl ?_
          refine x_isub (q := 86) C dX10_gain_85  rfl ?_
          exact x_iret C dX10_gain_86 h
        · have h := h.2 c39
          refine x_iconst (q := 59) (z := 1) C dX10_gain_58 rfl rfl ?_
          refine x_goto (tgt := 63) C dX10_gain_59 rfl ?_
          refine x_iadd (q := 64) C dX10_gain_63  rfl ?_
          refine x_iast (q := 65) C (Nat.le_of_ble_eq_true rfl) ly_54 dX10_gain_64 (ix o32 rfl) (Nat.le_of_ble_eq_true rfl)  rfl ?_
          refine x_iconst (q := 66) (z := 2) C dX10_gain_65 rfl rfl ?_
          refine x_aload_n (q := 67) (i := 0) C dX10_gain_66 rfl 0 rfl rfl ?_
          refine x_iconst (q := 68) (z := 1) C dX10_gain_67 rfl rfl ?_
          refine x_iload_n (q := 69) (i := 1) C dX10_gain_68 rfl 1 rfl rfl ?_
          refine x_iconst (q := 70) (z := 0) C dX10_gain_69 rfl rfl ?_
          refine x_virI (q := 73) C (Nat.le_of_ble_eq_true rfl) ly_51 rfl ck_RX10_130 vk_X10_cellsSeen (m_X10_cellsSeen l hI h) ⟨⟨rfl, rfl⟩, ⟨Nat.le_of_ble_eq_true rfl, Nat.le_of_ble_eq_true rfl⟩, ⟨Nat.zero_le _, Nat.zero_le _⟩⟩ dX10_gain_70 rfl rfl (Nat.le_of_ble_eq_true rfl) rfl (fun z42 σ42 h => ?_)
          rw [h.1]
          have h := h.2
          refine x_imul (q := 74) C dX10_gain_73  rfl ?_
          refine x_aload_n (q := 75) (i := 0) C dX10_gain_74 rfl 0 rfl rfl ?_
          refine x_iconst (q := 76) (z := 1) C dX10_gain_75 rfl rfl ?_
          refine x_iload_n (q := 77) (i := 2) C dX10_gain_76 rfl 2 rfl rfl ?_
          refine x_iconst (q := 78) (z := 1) C dX10_gain_77 rfl rfl ?_
          refine x_iadd (q := 79) C dX10_gain_78  rfl ?_
          refine x_iconst (q := 80) (z := 0) C dX10_gain_79 rfl rfl ?_
          refine x_virI (q := 83) C (Nat.le_of_ble_eq_true rfl) ly_51 rfl ck_RX10_130 vk_X10_cellsSeen (m_X10_cellsSeen l hI h) ⟨⟨rfl, rfl⟩, ⟨Nat.le_of_ble_eq_true rfl, Nat.le_of_ble_eq_true rfl⟩, ⟨Nat.zero_le _, Nat.zero_le _⟩⟩ dX10_gain_80 rfl rfl (Nat.le_of_ble_eq_true rfl) rfl (fun z43 σ43 h => ?_)
          rw [h.1]
          have h := h.2
          refine x_isub (q := 84) C dX10_gain_83  rfl ?_
          refine x_iload_n (q := 85) (i := 3) C dX10_gain_84 rfl 3 rfl rfl ?_
          refine x_isub (q := 86) C dX10_gain_85  rfl ?_
          exact x_iret C dX10_gain_86 h
abbrev rm_X10_isRest : Room := { frames := 5, cells := 0, slots := 0, locals := 125 }
def vc_X10_isRest (σ : GS) (a0 : Int) (a1 : Int) (a2 : Int) (a3 : Int) (Post : Int → GS → Prop) : Prop :=
  vc_X10_gain σ a0 a1 (1 - a2) a3 (fun (z1 : Int) (σ1 : GS) =>
    vc_X10_gain σ1 a0 a1 a2 a3 (fun (z2 : Int) (σ2 : GS) =>
    (rg z1) ∧
  ((rg z2) ∧
  ((z2 < z1 →
    (Post 0 σ2)) ∧
  (¬ z2 < z1 →
    (vc_X10_gain σ2 a1 a0 (1 - a3) a2 (fun (z6 : Int) (σ6 : GS) =>
      vc_X10_gain σ6 a1 a0 a3 a2 (fun (z7 : Int) (σ7 : GS) =>
      (rg z6) ∧
    ((rg z7) ∧
    ((z7 < z6 →
      (Post 0 σ7)) ∧
    (¬ z7 < z6 →
      (Post 1 σ7))))))))))))
set_option maxHeartbeats 4000000 in
set_option maxRecDepth 10000 in
theorem m_X10_isRest (l : Launch) {ad : Nat → Nat} {D : va_G} {cI cZ cG : ClassId} (hI : Ij ad) {σ : GS} {a0 : Int} {a1 : Int} {a2 : Int} {a3 : Int} {Post : Int → GS → Prop} (h : vc_X10_isRest σ a0 a1 a2 a3 Post) : Met l yX10_isRest (wX yX10_isRest cX10_isRest 5 (some .boolean)) rm_X10_isRest (va_Pc [.ref (ad 51), .int (iI a0), .int (iI a1), .int (iI a2), .int (iI a3)] (Wd ad D cI cZ cG σ)) (QI ad D cI cZ cG Post) 0 0 (Aw ad) := by
  refine met_V (own := RX10) hI (by decide +kernel) rfl (Nat.le_of_ble_eq_true rfl) ?_
  intro p e s m args below meth c C
  unfold vc_X10_isRest at h
  show V p l e rm_X10_isRest s m args below meth c ad D cI cZ cG (Aw ad) 5 0 0 (MQ below (QI ad D cI cZ cG Post) args s 0 0 (Aw ad)) σ 0 [(0, .ref (ad 51)), (1, .int (iI a0)), (2, .int (iI a1)), (3, .int (iI a2)), (4, .int (iI a3))] []
  refine x_aload_n (q := 1) (i := 0) C dX10_isRest_0 rfl 0 rfl rfl ?_
  refine x_iload_n (q := 2) (i := 1) C dX10_isRest_1 rfl 1 rfl rfl ?_
  refine x_iload_n (q := 3) (i := 2) C dX10_isRest_2 rfl 2 rfl rfl ?_
  refine x_iconst (q := 4) (z := 1) C dX10_isRest_3 rfl rfl ?_
  refine x_iload_n (q := 5) (i := 3) C dX10_isRest_4 rfl 3 rfl rfl ?_
  refine x_isub (q := 6) C dX10_isRest_5  rfl ?_
  refine x_iload (q := 8) C dX10_isRest_6 4 rfl rfl ?_
  refine x_virI (q := 11) C (Nat.le_of_ble_eq_true rfl) ly_51 rfl ck_RX10_215 vk_X10_gain (m_X10_gain l hI h) ⟨⟨rfl, rfl⟩, ⟨Nat.le_of_ble_eq_true rfl, Nat.le_of_ble_eq_true rfl⟩, ⟨Nat.zero_le _, Nat.zero_le _⟩⟩ dX10_isRest_8 rfl rfl (Nat.le_of_ble_eq_true rfl) rfl (fun z1 σ1 h => ?_)
  refine x_aload_n (q := 12) (i := 0) C dX10_isRest_11 rfl 0 rfl rfl ?_
  refine x_iload_n (q := 13) (i := 1) C dX10_isRest_12 rfl 1 rfl rfl ?_
  refine x_iload_n (q := 14) (i := 2) C dX10_isRest_13 rfl 2 rfl rfl ?_
  refine x_iload_n (q := 15) (i := 3) C dX10_isRest_14 rfl 3 rfl rfl ?_
  refine x_iload (q := 17) C dX10_isRest_15 4 rfl rfl ?_
  refine x_virI (q := 20) C (Nat.le_of_ble_eq_true rfl) ly_51 rfl ck_RX10_215 vk_X10_gain (m_X10_gain l hI h) ⟨⟨rfl, rfl⟩, ⟨Nat.le_of_ble_eq_true rfl, Nat.le_of_ble_eq_true rfl⟩, ⟨Nat.zero_le _, Nat.zero_le _⟩⟩ dX10_isRest_17 rfl rfl (Nat.le_of_ble_eq_true rfl) rfl (fun z2 σ2 h => ?_)
  obtain ⟨o3, h⟩ := h
  obtain ⟨o4, h⟩ := h
  refine x_icmp_gt (q := 23) (tgt := 50) C dX10_isRest_20 rfl ⟨o3, o4⟩ rfl (fun c5 => ?_) (fun c5 => ?_)
  · have h := h.1 c5
    refine x_iconst (q := 51) (z := 0) C dX10_isRest_50 rfl rfl ?_
    exact x_zret C dX10_isRest_51 (by decide) h
  · have h := h.2 c5
    refine x_aload_n (q := 24) (i := 0) C dX10_isRest_23 rfl 0 rfl rfl ?_
    refine x_iload_n (q := 25) (i := 2) C dX10_isRest_24 rfl 2 rfl rfl ?_
    refine x_iload_n (q := 26) (i := 1) C dX10_isRest_25 rfl 1 rfl rfl ?_
    refine x_iconst (q := 27) (z := 1) C dX10_isRest_26 rfl rfl ?_
    refine x_iload (q := 29) C dX10_isRest_27 4 rfl rfl ?_
    refine x_isub (q := 30) C dX10_isRest_29  rfl ?_
    refine x_iload_n (q := 31) (i := 3) C dX10_isRest_30 rfl 3 rfl rfl ?_
    refine x_virI (q := 34) C (Nat.le_of_ble_eq_true rfl) ly_51 rfl ck_RX10_215 vk_X10_gain (m_X10_gain l hI h) ⟨⟨rfl, rfl⟩, ⟨Nat.le_of_ble_eq_true rfl, Nat.le_of_ble_eq_true rfl⟩, ⟨Nat.zero_le _, Nat.zero_le _⟩⟩ dX10_isRest_31 rfl rfl (Nat.le_of_ble_eq_true rfl) rfl (fun z6 σ6 h => ?_)
    refine x_aload_n (q := 35) (i := 0) C dX10_isRest_34 rfl 0 rfl rfl ?_
    refine x_iload_n (q := 36) (i := 2) C dX10_isRest_35 rfl 2 rfl rfl ?_
    refine x_iload_n (q := 37) (i := 1) C dX10_isRest_36 rfl 1 rfl rfl ?_
    refine x_iload (q := 39) C dX10_isRest_37 4 rfl rfl ?_
    refine x_iload_n (q := 40) (i := 3) C dX10_isRest_39 rfl 3 rfl rfl ?_
    refine x_virI (q := 43) C (Nat.le_of_ble_eq_true rfl) ly_51 rfl ck_RX10_215 vk_X10_gain (m_X10_gain l hI h) ⟨⟨rfl, rfl⟩, ⟨Nat.le_of_ble_eq_true rfl, Nat.le_of_ble_eq_true rfl⟩, ⟨Nat.zero_le _, Nat.zero_le _⟩⟩ dX10_isRest_40 rfl rfl (Nat.le_of_ble_eq_true rfl) rfl (fun z7 σ7 h => ?_)
    obtain ⟨o8, h⟩ := h
    obtain ⟨o9, h⟩ := h
    refine x_icmp_gt (q := 46) (tgt := 50) C dX10_isRest_43 rfl ⟨o8, o9⟩ rfl (fun c10 => ?_) (fun c10 => ?_)
    · have h := h.1 c10
      refine x_iconst (q := 51) (z := 0) C dX10_isRest_50 rfl rfl ?_
      exact x_zret C dX10_isRest_51 (by decide) h
    · have h := h.2 c10
      refine x_iconst (q := 47) (z := 1) C dX10_isRest_46 rfl rfl ?_
      refine x_goto (tgt := 51) C dX10_isRest_47 rfl ?_
      exact x_zret C dX10_isRest_51 (by decide) h
abbrev rm_X10_rests : Room := { frames := 6, cells := 0, slots := 0, locals := 149 }
def vc_X10_rests (σ : GS) (a0 : Int) (a1 : Int) (a2 : Int) (Post : Int → GS → Prop) : Prop :=
  vc_X10_isGap σ a0 (fun (z1 : Int) =>
    (rg z1) ∧
  ((z1 = 0 →
    (Post (-1) σ)) ∧
  (¬ z1 = 0 →
    (vc_X10_isGap σ a1 (fun (z4 : Int) =>
      (rg z4) ∧
    ((¬ z4 = 0 →
      ((rg a0) ∧
      ((rg a1) ∧
      ((a0 = a1 →
        (Post (-2) σ)) ∧
      (¬ a0 = a1 →
        ((rg a2) ∧
        (vc_X10_in σ a2 0 1 (fun (z11 : Int) =>
          (rg z11) ∧
        ((¬ z11 = 0 →
          (∃ I14 : Nat → Int → Int → Int → GS → Prop, (∃ n : Nat, I14 n 0 (-9) 0 σ) ∧ ∀ (n14 : Nat) (v4_14 : Int) (v5_14 : Int) (v6_14 : Int) (σ14 : GS), I14 n14 v4_14 v5_14 v6_14 σ14 →
          ((rg v6_14) ∧
              (((4 : Int) ≤ v6_14 →
                ((¬ a2 = 0 →
                  (Post v5_14 σ14)) ∧
                (a2 = 0 →
                  (Post v4_14 σ14)))) ∧
              (¬ (4 : Int) ≤ v6_14 →
                ((0 ≤ v6_14 ∧ v6_14 ≤ 2147483647) ∧
                (vc_X10_isRest σ14 a0 a1 (v6_14 / 2) (v6_14 % 2) (fun (z19 : Int) (σ19 : GS) =>
                  (rg z19) ∧
                ((z19 = 0 →
                  (∃ n' : Nat, n' < n14 ∧ I14 n' v4_14 v5_14 (v6_14 + 1) σ19)) ∧
                (¬ z19 = 0 →
                  ((rg v4_14) ∧
                  ((¬ v4_14 = 0 →
                    (∃ n' : Nat, n' < n14 ∧ I14 n' (v4_14 + 1) v5_14 (v6_14 + 1) σ19)) ∧
                  (v4_14 = 0 →
                    (∃ n' : Nat, n' < n14 ∧ I14 n' (v4_14 + 1) ((10 * (v6_14 / 2)) + (v6_14 % 2)) (v6_14 + 1) σ19)))))))))))))) ∧
        (z11 = 0 →
          (Post (-2) σ))))))))))) ∧
    (z4 = 0 →
      (Post (-1) σ))))))))
set_option maxHeartbeats 4000000 in
set_option maxRecDepth 10000 in
theorem m_X10_rests (l : Launch) {ad : Nat → Nat} {D : va_G} {cI cZ cG : ClassId} (hI : Ij ad) {σ : GS} {a0 : Int} {a1 : Int} {a2 : Int} {Post : Int → GS → Prop} (h : vc_X10_rests σ a0 a1 a2 Post) : Met l yX10_rests (wX yX10_rests cX10_rests 7 (some .int)) rm_X10_rests (va_Pc [.ref (ad 51), .int (iI a0), .int (iI a1), .int (iI a2)] (Wd ad D cI cZ cG σ)) (QI ad D cI cZ cG Post) 0 0 (Aw ad) := by
  refine met_V (own := RX10) hI (by decide +kernel) rfl (Nat.le_of_ble_eq_true rfl) ?_
  intro p e s m args below meth c C
  unfold vc_X10_rests at h
  show V p l e rm_X10_rests s m args below meth c ad D cI cZ cG (Aw ad) 7 0 0 (MQ below (QI ad D cI cZ cG Post) args s 0 0 (Aw ad)) σ 0 [(0, .ref (ad 51)), (1, .int (iI a0)), (2, .int (iI a1)), (3, .int (iI a2))] []
  refine x_aload_n (q := 1) (i := 0) C dX10_rests_0 rfl 0 rfl rfl ?_
  refine x_iload_n (q := 2) (i := 1) C dX10_rests_1 rfl 1 rfl rfl ?_
  refine x_virI (q := 5) C (Nat.le_of_ble_eq_true rfl) ly_51 rfl ck_RX10_133 vk_X10_isGap (m_X10_isGap l hI h) ⟨⟨rfl, rfl⟩, ⟨Nat.le_of_ble_eq_true rfl, Nat.le_of_ble_eq_true rfl⟩, ⟨Nat.zero_le _, Nat.zero_le _⟩⟩ dX10_rests_2 rfl rfl (Nat.le_of_ble_eq_true rfl) rfl (fun z1 σ1 h => ?_)
  rw [h.1]
  have h := h.2
  obtain ⟨o2, h⟩ := h
  refine x_if_eq (q := 8) (tgt := 16) C dX10_rests_5 rfl o2 rfl (fun c3 => ?_) (fun c3 => ?_)
  · have h := h.1 c3
    refine x_iconst (q := 17) (z := (-1)) C dX10_rests_16 rfl rfl ?_
    exact x_iret C dX10_rests_17 h
  · have h := h.2 c3
    refine x_aload_n (q := 9) (i := 0) C dX10_rests_8 rfl 0 rfl rfl ?_
    refine x_iload_n (q := 10) (i := 2) C dX10_rests_9 rfl 2 rfl rfl ?_
    refine x_virI (q := 13) C (Nat.le_of_ble_eq_true rfl) ly_51 rfl ck_RX10_133 vk_X10_isGap (m_X10_isGap l hI h) ⟨⟨rfl, rfl⟩, ⟨Nat.le_of_ble_eq_true rfl, Nat.le_of_ble_eq_true rfl⟩, ⟨Nat.zero_le _, Nat.zero_le _⟩⟩ dX10_rests_10 rfl rfl (Nat.le_of_ble_eq_true rfl) rfl (fun z4 σ4 h => ?_)
    rw [h.1]
    have h := h.2
    obtain ⟨o5, h⟩ := h
    refine x_if_ne (q := 16) (tgt := 18) C dX10_rests_13 rfl o5 rfl (fun c6 => ?_) (fun c6 => ?_)
    · have h := h.1 c6
      refine x_iload_n (q := 19) (i := 1) C dX10_rests_18 rfl 1 rfl rfl ?_
      refine x_iload_n (q := 20) (i := 2) C dX10_rests_19 rfl 2 rfl rfl ?_
      obtain ⟨o7, h⟩ := h
      obtain ⟨o8, h⟩ := h
      refine x_icmp_eq (q := 23) (tgt := 33) C dX10_rests_20 rfl ⟨o7, o8⟩ rfl (fun c9 => ?_) (fun c9 => ?_)
      · have h := h.1 c9
        refine x_bipush (q := 35) (z := (-2)) C dX10_rests_33 rfl rfl ?_
        exact x_iret C dX10_rests_35 h
      · have h := h.2 c9
        refine x_iload_n (q := 24) (i := 3) C dX10_rests_23 rfl 3 rfl rfl ?_
        obtain ⟨o10, h⟩ := h
        refine x_i2l (q := 25) C dX10_rests_24 o10 rfl ?_
        refine x_lconst (q := 26) (z := 0) C dX10_rests_25 rfl rfl ?_
        refine x_lconst (q := 27) (z := 1) C dX10_rests_26 rfl rfl ?_
        refine x_staI (q := 30) C ck_RX10_52 t4_33 (m_X10_in l hI h) ⟨⟨rfl, rfl⟩, ⟨Nat.le_of_ble_eq_true rfl, Nat.le_of_ble_eq_true rfl⟩, ⟨Nat.zero_le _, Nat.zero_le _⟩⟩ dX10_rests_27 rfl rfl (Nat.le_of_ble_eq_true rfl) rfl (fun z11 σ11 h => ?_)
        rw [h.1]
        have h := h.2
        obtain ⟨o12, h⟩ := h
        refine x_if_ne (q := 33) (tgt := 36) C dX10_rests_30 rfl o12 rfl (fun c13 => ?_) (fun c13 => ?_)
        · have h := h.1 c13
          refine x_iconst (q := 37) (z := 0) C dX10_rests_36 rfl rfl ?_
          refine x_istore (q := 39) (i := 4) (lv' := [(0, .ref (ad 51)), (1, .int (iI a0)), (2, .int (iI a1)), (3, .int (iI a2)), (4, .int (iI 0))]) C dX10_rests_37 (Nat.le_of_ble_eq_true rfl) [1, 2, 3, 4, 0] rfl rfl ?_
          refine x_bipush (q := 41) (z := (-9)) C dX10_rests_39 rfl rfl ?_
          refine x_istore (q := 43) (i := 5) (lv' := [(0, .ref (ad 51)), (1, .int (iI a0)), (2, .int (iI a1)), (3, .int (iI a2)), (4, .int (iI 0)), (5, .int (iI (-9)))]) C dX10_rests_41 (Nat.le_of_ble_eq_true rfl) [1, 2, 3, 4, 5, 0] rfl rfl ?_
          refine x_iconst (q := 44) (z := 0) C dX10_rests_43 rfl rfl ?_
          refine x_istore (q := 46) (i := 6) (lv' := [(0, .ref (ad 51)), (1, .int (iI a0)), (2, .int (iI a1)), (3, .int (iI a2)), (4, .int (iI 0)), (5, .int (iI (-9))), (6, .int (iI 0))]) C dX10_rests_44 (Nat.le_of_ble_eq_true rfl) [1, 2, 3, 4, 5, 6, 0] rfl rfl ?_
          obtain ⟨I14, ⟨n014, h014⟩, hs14⟩ := h
          have L14 : ∀ (n14 : Nat) (v4_14 : Int) (v5_14 : Int) (v6_14 : Int) (σ14 : GS), I14 n14 v4_14 v5_14 v6_14 σ14 → V p l e rm_X10_rests s m args below meth c ad D cI cZ cG (Aw ad) 7 0 0 (MQ below (QI ad D cI cZ cG Post) args s 0 0 (Aw ad)) σ14 46 [(0, .ref (ad 51)), (1, .int (iI a0)), (2, .int (iI a1)), (3, .int (iI a2)), (4, .int (iI v4_14)), (5, .int (iI v5_14)), (6, .int (iI v6_14))] [] := by
            intro n14
            induction n14 using Nat.strongRecOn with
            | ind n14 ih14 =>
              intro v4_14 v5_14 v6_14 σ14 h
              have h := hs14 n14 v4_14 v5_14 v6_14 σ14 h
              refine x_iload (q := 48) C dX10_rests_46 6 rfl rfl ?_
              refine x_iconst (q := 49) (z := 4) C dX10_rests_48 rfl rfl ?_
              obtain ⟨o15, h⟩ := h
              refine x_icmp_ge (q := 52) (tgt := 102) C dX10_rests_49 rfl ⟨o15, by decide⟩ rfl (fun c16 => ?_) (fun c16 => ?_)
              · have h := h.1 c16
                refine x_iload_n (q := 103) (i := 3) C dX10_rests_102 rfl 3 rfl rfl ?_
                refine x_if_ne (q := 106) (tgt := 111) C dX10_rests_103 rfl o10 rfl (fun c17 => ?_) (fun c17 => ?_)
                · have h := h.1 c17
                  refine x_iload (q := 113) C dX10_rests_111 5 rfl rfl ?_
                  exact x_iret C dX10_rests_113 h
                · have h := h.2 c17
                  refine x_iload (q := 108) C dX10_rests_106 4 rfl rfl ?_
                  refine x_goto (tgt := 113) C dX10_rests_108 rfl ?_
                  exact x_iret C dX10_rests_113 h
              · have h := h.2 c16
                refine x_aload_n (q := 53) (i := 0) C dX10_rests_52 rfl 0 rfl rfl ?_
                refine x_iload_n (q := 54) (i := 1) C dX10_rests_53 rfl 1 rfl rfl ?_
                refine x_iload_n (q := 55) (i := 2) C dX10_rests_54 rfl 2 rfl rfl ?_
                refine x_iload (q := 57) C dX10_rests_55 6 rfl rfl ?_
                refine x_iconst (q := 58) (z := 2) C dX10_rests_57 rfl rfl ?_
                obtain ⟨o18, h⟩ := h
                refine x_idiv (q := 59) C dX10_rests_58 ⟨o18, by decide⟩ rfl ?_
                refine x_iload (q := 61) C dX10_rests_59 6 rfl rfl ?_
                refine x_iconst (q := 62) (z := 2) C dX10_rests_61 rfl rfl ?_
                refine x_irem (q := 63) C dX10_rests_62 ⟨o18, by decide⟩ rfl ?_
                refine x_virI (q := 66) C (Nat.le_of_ble_eq_true rfl) ly_51 rfl ck_RX10_218 vk_X10_isRest (m_X10_isRest l hI h) ⟨⟨rfl, rfl⟩, ⟨Nat.le_of_ble_eq_true rfl, Nat.le_of_ble_eq_true rfl⟩, ⟨Nat.zero_le _, Nat.zero_le _⟩⟩ dX10_rests_63 rfl rfl (Nat.le_of_ble_eq_true rfl) rfl (fun z19 σ19 h => ?_)
                obtain ⟨o20, h⟩ := h
                refine x_if_eq (q := 69) (tgt := 96) C dX10_rests_66 rfl o20 rfl (fun c21 => ?_) (fun c21 => ?_)
                · have h := h.1 c21
                  refine x_iinc (q := 99) (z' := v6_14 + 1) (lv' := [(0, .ref (ad 51)), (1, .int (iI a0)), (2, .int (iI a1)), (3, .int (iI a2)), (4, .int (iI v4_14)), (5, .int (iI v5_14)), (6, .int (iI (v6_14 + 1)))]) C dX10_rests_96 6 rfl rfl (Nat.le_of_ble_eq_true rfl) [1, 2, 3, 4, 5, 6, 0] rfl rfl ?_
                  refine x_goto (tgt := 46) C dX10_rests_99 rfl ?_
                  obtain ⟨n22, hl23, h⟩ := h
                  refine x_sub [0, 1, 2, 3, 4, 5, 6] rfl ?_
                  exact ih14 n22 hl23 _ _ _ _ h
                · have h := h.2 c21
                  refine x_iload (q := 71) C dX10_rests_69 4 rfl rfl ?_
                  obtain ⟨o24, h⟩ := h
                  refine x_if_ne (q := 74) (tgt := 89) C dX10_rests_71 rfl o24 rfl (fun c25 => ?_) (fun c25 => ?_)
                  · have h := h.1 c25
                    refine x_iload (q := 91) C dX10_rests_89 5 rfl rfl ?_
                    refine x_istore (q := 93) (i := 5) (lv' := [(0, .ref (ad 51)), (1, .int (iI a0)), (2, .int (iI a1)), (3, .int (iI a2)), (4, .int (iI v4_14)), (5, .int (iI v5_14)), (6, .int (iI v6_14))]) C dX10_rests_91 (Nat.le_of_ble_eq_true rfl) [1, 2, 3, 4, 5, 0, 6] rfl rfl ?_
                    refine x_iinc (q := 96) (z' := v4_14 + 1) (lv' := [(0, .ref (ad 51)), (1, .int (iI a0)), (2, .int (iI a1)), (3, .int (iI a2)), (4, .int (iI (v4_14 + 1))), (5, .int (iI v5_14)), (6, .int (iI v6_14))]) C dX10_rests_93 4 rfl rfl (Nat.le_of_ble_eq_true rfl) [1, 2, 3, 4, 0, 5, 6] rfl rfl ?_
                    refine x_iinc (q := 99) (z' := v6_14 + 1) (lv' := [(0, .ref (ad 51)), (1, .int (iI a0)), (2, .int (iI a1)), (3, .int (iI a2)), (4, .int (iI (v4_14 + 1))), (5, .int (iI v5_14)), (6, .int (iI (v6_14 + 1)))]) C dX10_rests_96 6 rfl rfl (Nat.le_of_ble_eq_true rfl) [1, 2, 3, 4, 5, 6, 0] rfl rfl ?_
                    refine x_goto (tgt := 46) C dX10_rests_99 rfl ?_
                    obtain ⟨n26, hl27, h⟩ := h
                    refine x_sub [0, 1, 2, 3, 4, 5, 6] rfl ?_
                    exact ih14 n26 hl27 _ _ _ _ h
                  · have h := h.2 c25
                    refine x_bipush (q := 76) (z := 10) C dX10_rests_74 rfl rfl ?_
                    refine x_iload (q := 78) C dX10_rests_76 6 rfl rfl ?_
                    refine x_iconst (q := 79) (z := 2) C dX10_rests_78 rfl rfl ?_
                    refine x_idiv (q := 80) C dX10_rests_79 ⟨o18, by decide⟩ rfl ?_
                    refine x_imul (q := 81) C dX10_rests_80  rfl ?_
                    refine x_iload (q := 83) C dX10_rests_81 6 rfl rfl ?_
                    refine x_iconst (q := 84) (z := 2) C dX10_rests_83 rfl rfl ?_
                    refine x_irem (q := 85) C dX10_rests_84 ⟨o18, by decide⟩ rfl ?_
                    refine x_iadd (q := 86) C dX10_rests_85  rfl ?_
                    refine x_goto (tgt := 91) C dX10_rests_86 rfl ?_
                    refine x_istore (q := 93) (i := 5) (lv' := [(0, .ref (ad 51)), (1, .int (iI a0)), (2, .int (iI a1)), (3, .int (iI a2)), (4, .int (iI v4_14)), (5, .int (iI ((10 * (v6_14 / 2)) + (v6_14 % 2)))), (6, .int (iI v6_14))]) C dX10_rests_91 (Nat.le_of_ble_eq_true rfl) [1, 2, 3, 4, 5, 0, 6] rfl rfl ?_
                    refine x_iinc (q := 96) (z' := v4_14 + 1) (lv' := [(0, .ref (ad 51)), (1, .int (iI a0)), (2, .int (iI a1)), (3, .int (iI a2)), (4, .int (iI (v4_14 + 1))), (5, .int (iI ((10 * (v6_14 / 2)) + (v6_14 % 2)))), (6, .int (iI v6_14))]) C dX10_rests_93 4 rfl rfl (Nat.le_of_ble_eq_true rfl) [1, 2, 3, 4, 0, 5, 6] rfl rfl ?_
                    refine x_iinc (q := 99) (z' := v6_14 + 1) (lv' := [(0, .ref (ad 51)), (1, .int (iI a0)), (2, .int (iI a1)), (3, .int (iI a2)), (4, .int (iI (v4_14 + 1))), (5, .int (iI ((10 * (v6_14 / 2)) + (v6_14 % 2)))), (6, .int (iI (v6_14 + 1)))]) C dX10_rests_96 6 rfl rfl (Nat.le_of_ble_eq_true rfl) [1, 2, 3, 4, 5, 6, 0] rfl rfl ?_
                    refine x_goto (tgt := 46) C dX10_rests_99 rfl ?_
                    obtain ⟨n28, hl29, h⟩ := h
                    refine x_sub [0, 1, 2, 3, 4, 5, 6] rfl ?_
                    exact ih14 n28 hl29 _ _ _ _ h
          exact L14 n014 0 (-9) 0 σ h014
        · have h := h.2 c13
          refine x_bipush (q := 35) (z := (-2)) C dX10_rests_33 rfl rfl ?_
          exact x_iret C dX10_rests_35 h
    · have h := h.2 c6
      refine x_iconst (q := 17) (z := (-1)) C dX10_rests_16 rfl rfl ?_
      exact x_iret C dX10_rests_17 h
abbrev rm_X10_drops : Room := { frames := 6, cells := 0, slots := 0, locals := 152 }
def vc_X10_drops (σ : GS) (a0 : Int) (a1 : Int) (a2 : Int) (Post : Int → Prop) : Prop :=
  (rg a0) ∧
  (vc_X10_in σ a0 0 1 (fun (z2 : Int) =>
    (rg z2) ∧
  ((z2 = 0 →
    (Post (-2))) ∧
  (¬ z2 = 0 →
    ((rg a1) ∧
    (vc_X10_in σ a1 0 10 (fun (z6 : Int) =>
      (rg z6) ∧
    ((¬ z6 = 0 →
      (∃ I9 : Nat → Int → Int → Int → Prop, (∃ n : Nat, I9 n 0 0 0) ∧ ∀ (n9 : Nat) (v4_9 : Int) (v5_9 : Int) (v6_9 : Int), I9 n9 v4_9 v5_9 v6_9 →
      (((0 ≤ (1 : Int) ∧ (1 : Int) * 2 ^ (σ 51 0).toNat ≤ 2147483647) ∧ (0 ≤ (σ 51 0) ∧ (σ 51 0) < 32)) ∧
          ((rg v6_9) ∧
          ((rg (1 * 2 ^ (σ 51 0).toNat)) ∧
          (((1 * 2 ^ (σ 51 0).toNat) ≤ v6_9 →
            (vc_X10_common σ v4_9 v5_9 (fun (z14 : Int) =>
              (rg a2) ∧
            ((a2 = 0 →
              (((0 ≤ v5_9 ∧ v5_9 ≤ 2147483647) ∧ (0 < z14 ∧ z14 ≤ 2147483647)) ∧
              (Post (v5_9 / z14)))) ∧
            (¬ a2 = 0 →
              (((0 ≤ v4_9 ∧ v4_9 ≤ 2147483647) ∧ (0 < z14 ∧ z14 ≤ 2147483647)) ∧
              (Post (v4_9 / z14)))))))) ∧
          (¬ (1 * 2 ^ (σ 51 0).toNat) ≤ v6_9 →
            (∃ I19 : Nat → Int → Int → Prop, (∃ n : Nat, I19 n 1 0) ∧ ∀ (n19 : Nat) (v7_19 : Int) (v8_19 : Int), I19 n19 v7_19 v8_19 →
            ((rg v8_19) ∧
                ((rg (σ 51 0)) ∧
                (((σ 51 0) ≤ v8_19 →
                  (vc_X10_readsOn σ 0 v6_9 a0 (fun (z23 : Int) =>
                    (rg z23) ∧
                  ((¬ z23 = (-9) →
                    (∃ n' : Nat, n' < n9 ∧ I9 n' (v4_9 + v7_19) (v5_9 + v7_19) (v6_9 + 1))) ∧
                  (z23 = (-9) →
                    (∃ n' : Nat, n' < n9 ∧ I9 n' (v4_9 + 0) (v5_9 + v7_19) (v6_9 + 1))))))) ∧
                (¬ (σ 51 0) ≤ v8_19 →
                  (vc_X10_has σ v6_9 v8_19 (fun (z30 : Int) =>
                    (rg z30) ∧
                  ((z30 = 0 →
                    (∃ n' : Nat, n' < n19 ∧ I19 n' (v7_19 * a1) (v8_19 + 1))) ∧
                  (¬ z30 = 0 →
                    (∃ n' : Nat, n' < n19 ∧ I19 n' (v7_19 * (10 - a1)) (v8_19 + 1)))))))))))))))))) ∧
    (z6 = 0 →
      (Post (-2)))))))))))
set_option maxHeartbeats 4000000 in
set_option maxRecDepth 10000 in
theorem m_X10_drops (l : Launch) {ad : Nat → Nat} {D : va_G} {cI cZ cG : ClassId} (hI : Ij ad) {σ : GS} {a0 : Int} {a1 : Int} {a2 : Int} {Post : Int → Prop} (h : vc_X10_drops σ a0 a1 a2 Post) : Met l yX10_drops (wX yX10_drops cX10_drops 9 (some .int)) rm_X10_drops (va_Pc [.ref (ad 51), .int (iI a0), .int (iI a1), .int (iI a2)] (Wd ad D cI cZ cG σ)) (QI ad D cI cZ cG (fun z u => u = σ ∧ Post z)) 0 0 (Aw ad) := by
  refine met_V (own := RX10) hI (by decide +kernel) rfl (Nat.le_of_ble_eq_true rfl) ?_
  intro p e s m args below meth c C
  unfold vc_X10_drops at h
  show V p l e rm_X10_drops s m args below meth c ad D cI cZ cG (Aw ad) 9 0 0 (MQ below (QI ad D cI cZ cG (fun z u => u = σ ∧ Post z)) args s 0 0 (Aw ad)) σ 0 [(0, .ref (ad 51)), (1, .int (iI a0)), (2, .int (iI a1)), (3, .int (iI a2))] []
  refine x_iload_n (q := 1) (i := 1) C dX10_drops_0 rfl 1 rfl rfl ?_
  obtain ⟨o1, h⟩ := h
  refine x_i2l (q := 2) C dX10_drops_1 o1 rfl ?_
  refine x_lconst (q := 3) (z := 0) C dX10_drops_2 rfl rfl ?_
  refine x_lconst (q := 4) (z := 1) C dX10_drops_3 rfl rfl ?_
  refine x_staI (q := 7) C ck_RX10_52 t4_33 (m_X10_in l hI h) ⟨⟨rfl, rfl⟩, ⟨Nat.le_of_ble_eq_true rfl, Nat.le_of_ble_eq_true rfl⟩, ⟨Nat.zero_le _, Nat.zero_le _⟩⟩ dX10_drops_4 rfl rfl (Nat.le_of_ble_eq_true rfl) rfl (fun z2 σ2 h => ?_)
  rw [h.1]
  have h := h.2
  obtain ⟨o3, h⟩ := h
  refine x_if_eq (q := 10) (tgt := 22) C dX10_drops_7 rfl o3 rfl (fun c4 => ?_) (fun c4 => ?_)
  · have h := h.1 c4
    refine x_bipush (q := 24) (z := (-2)) C dX10_drops_22 rfl rfl ?_
    exact x_iret C dX10_drops_24 ⟨rfl, h⟩
  · have h := h.2 c4
    refine x_iload_n (q := 11) (i := 2) C dX10_drops_10 rfl 2 rfl rfl ?_
    obtain ⟨o5, h⟩ := h
    refine x_i2l (q := 12) C dX10_drops_11 o5 rfl ?_
    refine x_lconst (q := 13) (z := 0) C dX10_drops_12 rfl rfl ?_
    refine x_ldc2 (q := 16) (z := 10) C dX10_drops_13 t5_31 rfl rfl ?_
    refine x_staI (q := 19) C ck_RX10_52 t4_33 (m_X10_in l hI h) ⟨⟨rfl, rfl⟩, ⟨Nat.le_of_ble_eq_true rfl, Nat.le_of_ble_eq_true rfl⟩, ⟨Nat.zero_le _, Nat.zero_le _⟩⟩ dX10_drops_16 rfl rfl (Nat.le_of_ble_eq_true rfl) rfl (fun z6 σ6 h => ?_)
    rw [h.1]
    have h := h.2
    obtain ⟨o7, h⟩ := h
    refine x_if_ne (q := 22) (tgt := 25) C dX10_drops_19 rfl o7 rfl (fun c8 => ?_) (fun c8 => ?_)
    · have h := h.1 c8
      refine x_iconst (q := 26) (z := 0) C dX10_drops_25 rfl rfl ?_
      refine x_istore (q := 28) (i := 4) (lv' := [(0, .ref (ad 51)), (1, .int (iI a0)), (2, .int (iI a1)), (3, .int (iI a2)), (4, .int (iI 0))]) C dX10_drops_26 (Nat.le_of_ble_eq_true rfl) [1, 2, 3, 4, 0] rfl rfl ?_
      refine x_iconst (q := 29) (z := 0) C dX10_drops_28 rfl rfl ?_
      refine x_istore (q := 31) (i := 5) (lv' := [(0, .ref (ad 51)), (1, .int (iI a0)), (2, .int (iI a1)), (3, .int (iI a2)), (4, .int (iI 0)), (5, .int (iI 0))]) C dX10_drops_29 (Nat.le_of_ble_eq_true rfl) [1, 2, 3, 4, 5, 0] rfl rfl ?_
      refine x_iconst (q := 32) (z := 0) C dX10_drops_31 rfl rfl ?_
      refine x_istore (q := 34) (i := 6) (lv' := [(0, .ref (ad 51)), (1, .int (iI a0)), (2, .int (iI a1)), (3, .int (iI a2)), (4, .int (iI 0)), (5, .int (iI 0)), (6, .int (iI 0))]) C dX10_drops_32 (Nat.le_of_ble_eq_true rfl) [1, 2, 3, 4, 5, 6, 0] rfl rfl ?_
      obtain ⟨I9, ⟨n09, h09⟩, hs9⟩ := h
      have L9 : ∀ (n9 : Nat) (v4_9 : Int) (v5_9 : Int) (v6_9 : Int), I9 n9 v4_9 v5_9 v6_9 → V p l e rm_X10_drops s m args below meth c ad D cI cZ cG (Aw ad) 9 0 0 (MQ below (QI ad D cI cZ cG (fun z u => u = σ ∧ Post z)) args s 0 0 (Aw ad)) σ 34 [(0, .ref (ad 51)), (1, .int (iI a0)), (2, .int (iI a1)), (3, .int (iI a2)), (4, .int (iI v4_9)), (5, .int (iI v5_9)), (6, .int (iI v6_9))] [] := by
        intro n9
        induction n9 using Nat.strongRecOn with
        | ind n9 ih9 =>
          intro v4_9 v5_9 v6_9 h
          have h := hs9 n9 v4_9 v5_9 v6_9 h
          refine x_iload (q := 36) C dX10_drops_34 6 rfl rfl ?_
          refine x_iconst (q := 37) (z := 1) C dX10_drops_36 rfl rfl ?_
          refine x_aload_n (q := 38) (i := 0) C dX10_drops_37 rfl 0 rfl rfl ?_
          refine x_getI (q := 41) C (Nat.le_of_ble_eq_true rfl) ly_51 fk_RX10_75 rfl dX10_drops_38 rfl ?_
          obtain ⟨o10, h⟩ := h
          refine x_ishl (q := 42) C dX10_drops_41 o10 rfl ?_
          obtain ⟨o11, h⟩ := h
          obtain ⟨o12, h⟩ := h
          refine x_icmp_ge (q := 45) (tgt := 126) C dX10_drops_42 rfl ⟨o11, o12⟩ rfl (fun c13 => ?_) (fun c13 => ?_)
          · have h := h.1 c13
            refine x_iload (q := 128) C dX10_drops_126 4 rfl rfl ?_
            refine x_iload (q := 130) C dX10_drops_128 5 rfl rfl ?_
            refine x_staI (q := 133) C ck_RX10_212 t5_13 (m_X10_common l hI h) ⟨⟨rfl, rfl⟩, ⟨Nat.le_of_ble_eq_true rfl, Nat.le_of_ble_eq_true rfl⟩, ⟨Nat.zero_le _, Nat.zero_le _⟩⟩ dX10_drops_130 rfl rfl (Nat.le_of_ble_eq_true rfl) rfl (fun z14 σ14 h => ?_)
            rw [h.1]
            have h := h.2
            refine x_istore (q := 135) (i := 6) (lv' := [(0, .ref (ad 51)), (1, .int (iI a0)), (2, .int (iI a1)), (3, .int (iI a2)), (4, .int (iI v4_9)), (5, .int (iI v5_9)), (6, .int (iI z14))]) C dX10_drops_133 (Nat.le_of_ble_eq_true rfl) [1, 2, 3, 4, 5, 6, 0] rfl rfl ?_
            refine x_iload_n (q := 136) (i := 3) C dX10_drops_135 rfl 3 rfl rfl ?_
            obtain ⟨o15, h⟩ := h
            refine x_if_eq (q := 139) (tgt := 147) C dX10_drops_136 rfl o15 rfl (fun c16 => ?_) (fun c16 => ?_)
            · have h := h.1 c16
              refine x_iload (q := 149) C dX10_drops_147 5 rfl rfl ?_
              refine x_iload (q := 151) C dX10_drops_149 6 rfl rfl ?_
              obtain ⟨o17, h⟩ := h
              refine x_idiv (q := 152) C dX10_drops_151 o17 rfl ?_
              exact x_iret C dX10_drops_152 ⟨rfl, h⟩
            · have h := h.2 c16
              refine x_iload (q := 141) C dX10_drops_139 4 rfl rfl ?_
              refine x_iload (q := 143) C dX10_drops_141 6 rfl rfl ?_
              obtain ⟨o18, h⟩ := h
              refine x_idiv (q := 144) C dX10_drops_143 o18 rfl ?_
              refine x_goto (tgt := 152) C dX10_drops_144 rfl ?_
              exact x_iret C dX10_drops_152 ⟨rfl, h⟩
          · have h := h.2 c13
            refine x_iconst (q := 46) (z := 1) C dX10_drops_45 rfl rfl ?_
            refine x_istore (q := 48) (i := 7) (lv' := [(0, .ref (ad 51)), (1, .int (iI a0)), (2, .int (iI a1)), (3, .int (iI a2)), (4, .int (iI v4_9)), (5, .int (iI v5_9)), (6, .int (iI v6_9)), (7, .int (iI 1))]) C dX10_drops_46 (Nat.le_of_ble_eq_true rfl) [1, 2, 3, 4, 5, 6, 7, 0] rfl rfl ?_
            refine x_iconst (q := 49) (z := 0) C dX10_drops_48 rfl rfl ?_
            refine x_istore (q := 51) (i := 8) (lv' := [(0, .ref (ad 51)), (1, .int (iI a0)), (2, .int (iI a1)), (3, .int (iI a2)), (4, .int (iI v4_9)), (5, .int (iI v5_9)), (6, .int (iI v6_9)), (7, .int (iI 1)), (8, .int (iI 0))]) C dX10_drops_49 (Nat.le_of_ble_eq_true rfl) [1, 2, 3, 4, 5, 6, 7, 8, 0] rfl rfl ?_
            obtain ⟨I19, ⟨n019, h019⟩, hs19⟩ := h
            have L19 : ∀ (n19 : Nat) (v7_19 : Int) (v8_19 : Int), I19 n19 v7_19 v8_19 → V p l e rm_X10_drops s m args below meth c ad D cI cZ cG (Aw ad) 9 0 0 (MQ below (QI ad D cI cZ cG (fun z u => u = σ ∧ Post z)) args s 0 0 (Aw ad)) σ 51 [(0, .ref (ad 51)), (1, .int (iI a0)), (2, .int (iI a1)), (3, .int (iI a2)), (4, .int (iI v4_9)), (5, .int (iI v5_9)), (6, .int (iI v6_9)), (7, .int (iI v7_19)), (8, .int (iI v8_19))] [] := by
              intro n19
              induction n19 using Nat.strongRecOn with
              | ind n19 ih19 =>
                intro v7_19 v8_19 h
                have h := hs19 n19 v7_19 v8_19 h
                refine x_iload (q := 53) C dX10_drops_51 8 rfl rfl ?_
                refine x_aload_n (q := 54) (i := 0) C dX10_drops_53 rfl 0 rfl rfl ?_
                refine x_getI (q := 57) C (Nat.le_of_ble_eq_true rfl) ly_51 fk_RX10_75 rfl dX10_drops_54 rfl ?_
                obtain ⟨o20, h⟩ := h
                obtain ⟨o21, h⟩ := h
                refine x_icmp_ge (q := 60) (tgt := 89) C dX10_drops_57 rfl ⟨o20, o21⟩ rfl (fun c22 => ?_) (fun c22 => ?_)
                · have h := h.1 c22
                  refine x_iload (q := 91) C dX10_drops_89 5 rfl rfl ?_
                  refine x_iload (q := 93) C dX10_drops_91 7 rfl rfl ?_
                  refine x_iadd (q := 94) C dX10_drops_93  rfl ?_
                  refine x_istore (q := 96) (i := 5) (lv' := [(0, .ref (ad 51)), (1, .int (iI a0)), (2, .int (iI a1)), (3, .int (iI a2)), (4, .int (iI v4_9)), (5, .int (iI (v5_9 + v7_19))), (6, .int (iI v6_9)), (7, .int (iI v7_19)), (8, .int (iI v8_19))]) C dX10_drops_94 (Nat.le_of_ble_eq_true rfl) [1, 2, 3, 4, 5, 0, 6, 7, 8] rfl rfl ?_
                  refine x_iload (q := 98) C dX10_drops_96 4 rfl rfl ?_
                  refine x_aload_n (q := 99) (i := 0) C dX10_drops_98 rfl 0 rfl rfl ?_
                  refine x_iconst (q := 100) (z := 0) C dX10_drops_99 rfl rfl ?_
                  refine x_iload (q := 102) C dX10_drops_100 6 rfl rfl ?_
                  refine x_iload_n (q := 103) (i := 1) C dX10_drops_102 rfl 1 rfl rfl ?_
                  refine x_virI (q := 106) C (Nat.le_of_ble_eq_true rfl) ly_51 rfl ck_RX10_161 vk_X10_readsOn (m_X10_readsOn l hI h) ⟨⟨rfl, rfl⟩, ⟨Nat.le_of_ble_eq_true rfl, Nat.le_of_ble_eq_true rfl⟩, ⟨Nat.zero_le _, Nat.zero_le _⟩⟩ dX10_drops_103 rfl rfl (Nat.le_of_ble_eq_true rfl) rfl (fun z23 σ23 h => ?_)
                  rw [h.1]
                  have h := h.2
                  refine x_bipush (q := 108) (z := (-9)) C dX10_drops_106 rfl rfl ?_
                  obtain ⟨o24, h⟩ := h
                  refine x_icmp_ne (q := 111) (tgt := 115) C dX10_drops_108 rfl ⟨o24, by decide⟩ rfl (fun c25 => ?_) (fun c25 => ?_)
                  · have h := h.1 c25
                    refine x_iload (q := 117) C dX10_drops_115 7 rfl rfl ?_
                    refine x_iadd (q := 118) C dX10_drops_117  rfl ?_
                    refine x_istore (q := 120) (i := 4) (lv' := [(0, .ref (ad 51)), (1, .int (iI a0)), (2, .int (iI a1)), (3, .int (iI a2)), (4, .int (iI (v4_9 + v7_19))), (5, .int (iI (v5_9 + v7_19))), (6, .int (iI v6_9)), (7, .int (iI v7_19)), (8, .int (iI v8_19))]) C dX10_drops_118 (Nat.le_of_ble_eq_true rfl) [1, 2, 3, 4, 0, 5, 6, 7, 8] rfl rfl ?_
                    refine x_iinc (q := 123) (z' := v6_9 + 1) (lv' := [(0, .ref (ad 51)), (1, .int (iI a0)), (2, .int (iI a1)), (3, .int (iI a2)), (4, .int (iI (v4_9 + v7_19))), (5, .int (iI (v5_9 + v7_19))), (6, .int (iI (v6_9 + 1))), (7, .int (iI v7_19)), (8, .int (iI v8_19))]) C dX10_drops_120 6 rfl rfl (Nat.le_of_ble_eq_true rfl) [1, 2, 3, 4, 5, 6, 0, 7, 8] rfl rfl ?_
                    refine x_goto (tgt := 34) C dX10_drops_123 rfl ?_
                    obtain ⟨n26, hl27, h⟩ := h
                    refine x_sub [0, 1, 2, 3, 4, 5, 6] rfl ?_
                    exact ih9 n26 hl27 _ _ _ h
                  · have h := h.2 c25
                    refine x_iconst (q := 112) (z := 0) C dX10_drops_111 rfl rfl ?_
                    refine x_goto (tgt := 117) C dX10_drops_112 rfl ?_
                    refine x_iadd (q := 118) C dX10_drops_117  rfl ?_
                    refine x_istore (q := 120) (i := 4) (lv' := [(0, .ref (ad 51)), (1, .int (iI a0)), (2, .int (iI a1)), (3, .int (iI a2)), (4, .int (iI (v4_9 + 0))), (5, .int (iI (v5_9 + v7_19))), (6, .int (iI v6_9)), (7, .int (iI v7_19)), (8, .int (iI v8_19))]) C dX10_drops_118 (Nat.le_of_ble_eq_true rfl) [1, 2, 3, 4, 0, 5, 6, 7, 8] rfl rfl ?_
                    refine x_iinc (q := 123) (z' := v6_9 + 1) (lv' := [(0, .ref (ad 51)), (1, .int (iI a0)), (2, .int (iI a1)), (3, .int (iI a2)), (4, .int (iI (v4_9 + 0))), (5, .int (iI (v5_9 + v7_19))), (6, .int (iI (v6_9 + 1))), (7, .int (iI v7_19)), (8, .int (iI v8_19))]) C dX10_drops_120 6 rfl rfl (Nat.le_of_ble_eq_true rfl) [1, 2, 3, 4, 5, 6, 0, 7, 8] rfl rfl ?_
                    refine x_goto (tgt := 34) C dX10_drops_123 rfl ?_
                    obtain ⟨n28, hl29, h⟩ := h
                    refine x_sub [0, 1, 2, 3, 4, 5, 6] rfl ?_
                    exact ih9 n28 hl29 _ _ _ h
                · have h := h.2 c22
                  refine x_iload (q := 62) C dX10_drops_60 7 rfl rfl ?_
                  refine x_iload (q := 64) C dX10_drops_62 6 rfl rfl ?_
                  refine x_iload (q := 66) C dX10_drops_64 8 rfl rfl ?_
                  refine x_staI (q := 69) C ck_RX10_105 t4_90 (m_X10_has l hI h) ⟨⟨rfl, rfl⟩, ⟨Nat.le_of_ble_eq_true rfl, Nat.le_of_ble_eq_true rfl⟩, ⟨Nat.zero_le _, Nat.zero_le _⟩⟩ dX10_drops_66 rfl rfl (Nat.le_of_ble_eq_true rfl) rfl (fun z30 σ30 h => ?_)
                  rw [h.1]
                  have h := h.2
                  obtain ⟨o31, h⟩ := h
                  refine x_if_eq (q := 72) (tgt := 79) C dX10_drops_69 rfl o31 rfl (fun c32 => ?_) (fun c32 => ?_)
                  · have h := h.1 c32
                    refine x_iload_n (q := 80) (i := 2) C dX10_drops_79 rfl 2 rfl rfl ?_
                    refine x_imul (q := 81) C dX10_drops_80  rfl ?_
                    refine x_istore (q := 83) (i := 7) (lv' := [(0, .ref (ad 51)), (1, .int (iI a0)), (2, .int (iI a1)), (3, .int (iI a2)), (4, .int (iI v4_9)), (5, .int (iI v5_9)), (6, .int (iI v6_9)), (7, .int (iI (v7_19 * a1))), (8, .int (iI v8_19))]) C dX10_drops_81 (Nat.le_of_ble_eq_true rfl) [1, 2, 3, 4, 5, 6, 7, 0, 8] rfl rfl ?_
                    refine x_iinc (q := 86) (z' := v8_19 + 1) (lv' := [(0, .ref (ad 51)), (1, .int (iI a0)), (2, .int (iI a1)), (3, .int (iI a2)), (4, .int (iI v4_9)), (5, .int (iI v5_9)), (6, .int (iI v6_9)), (7, .int (iI (v7_19 * a1))), (8, .int (iI (v8_19 + 1)))]) C dX10_drops_83 8 rfl rfl (Nat.le_of_ble_eq_true rfl) [1, 2, 3, 4, 5, 6, 7, 8, 0] rfl rfl ?_
                    refine x_goto (tgt := 51) C dX10_drops_86 rfl ?_
                    obtain ⟨n33, hl34, h⟩ := h
                    refine x_sub [0, 1, 2, 3, 4, 5, 6, 7, 8] rfl ?_
                    exact ih19 n33 hl34 _ _ h
                  · have h := h.2 c32
                    refine x_bipush (q := 74) (z := 10) C dX10_drops_72 rfl rfl ?_
                    refine x_iload_n (q := 75) (i := 2) C dX10_drops_74 rfl 2 rfl rfl ?_
                    refine x_isub (q := 76) C dX10_drops_75  rfl ?_
                    refine x_goto (tgt := 80) C dX10_drops_76 rfl ?_
                    refine x_imul (q := 81) C dX10_drops_80  rfl ?_
                    refine x_istore (q := 83) (i := 7) (lv' := [(0, .ref (ad 51)), (1, .int (iI a0)), (2, .int (iI a1)), (3, .int (iI a2)), (4, .int (iI v4_9)), (5, .int (iI v5_9)), (6, .int (iI v6_9)), (7, .int (iI (v7_19 * (10 - a1)))), (8, .int (iI v8_19))]) C dX10_drops_81 (Nat.le_of_ble_eq_true rfl) [1, 2, 3, 4, 5, 6, 7, 0, 8] rfl rfl ?_
                    refine x_iinc (q := 86) (z' := v8_19 + 1) (lv' := [(0, .ref (ad 51)), (1, .int (iI a0)), (2, .int (iI a1)), (3, .int (iI a2)), (4, .int (iI v4_9)), (5, .int (iI v5_9)), (6, .int (iI v6_9)), (7, .int (iI (v7_19 * (10 - a1)))), (8, .int (iI (v8_19 + 1)))]) C dX10_drops_83 8 rfl rfl (Nat.le_of_ble_eq_true rfl) [1, 2, 3, 4, 5, 6, 7, 8, 0] rfl rfl ?_
                    refine x_goto (tgt := 51) C dX10_drops_86 rfl ?_
                    obtain ⟨n35, hl36, h⟩ := h
                    refine x_sub [0, 1, 2, 3, 4, 5, 6, 7, 8] rfl ?_
                    exact ih19 n35 hl36 _ _ h
            exact L19 n019 1 0 h019
      exact L9 n09 0 0 0 h09
    · have h := h.2 c8
      refine x_bipush (q := 24) (z := (-2)) C dX10_drops_22 rfl rfl ?_
      exact x_iret C dX10_drops_24 ⟨rfl, h⟩
abbrev rm_X10_seed : Room := { frames := 0, cells := 0, slots := 0, locals := 0 }
def vc_X10_seed (σ : GS) (a0 : Int) (Post : Int → GS → Prop) : Prop :=
  Post (σ 51 18) (up2 σ 51 18 a0)
set_option maxHeartbeats 4000000 in
set_option maxRecDepth 10000 in
theorem m_X10_seed (l : Launch) {ad : Nat → Nat} {D : va_G} {cI cZ cG : ClassId} (hI : Ij ad) {σ : GS} {a0 : Int} {Post : Int → GS → Prop} (h : vc_X10_seed σ a0 Post) : Met l yX10_seed (wX yX10_seed cX10_seed 5 (some .long)) rm_X10_seed (va_Pc [.ref (ad 51), .long (lI a0)] (Wd ad D cI cZ cG σ)) (QL ad D cI cZ cG Post) 0 0 (Aw ad) := by
  refine met_V (own := RX10) hI (by decide +kernel) rfl (Nat.le_of_ble_eq_true rfl) ?_
  intro p e s m args below meth c C
  unfold vc_X10_seed at h
  show V p l e rm_X10_seed s m args below meth c ad D cI cZ cG (Aw ad) 5 0 0 (MQ below (QL ad D cI cZ cG Post) args s 0 0 (Aw ad)) σ 0 [(0, .ref (ad 51)), (1, .long (lI a0))] []
  refine x_aload_n (q := 1) (i := 0) C dX10_seed_0 rfl 0 rfl rfl ?_
  refine x_getL (q := 4) C (Nat.le_of_ble_eq_true rfl) ly_51 fk_RX10_223 rfl dX10_seed_1 rfl ?_
  refine x_lstore_n (q := 5) (i := 3) (lv' := [(0, .ref (ad 51)), (1, .long (lI a0)), (3, .long (lI (σ 51 18)))]) C dX10_seed_4 rfl (Nat.le_of_ble_eq_true rfl) [1, 2, 0] rfl rfl ?_
  refine x_aload_n (q := 6) (i := 0) C dX10_seed_5 rfl 0 rfl rfl ?_
  refine x_lload_n (q := 7) (i := 1) C dX10_seed_6 rfl 1 rfl rfl ?_
  refine x_putL (q := 10) C (Nat.le_of_ble_eq_true rfl) ly_51 fk_RX10_223 rfl tyX10 tyX10_ok nmX10 rfl (tyX10_ok 18 (Nat.le_of_ble_eq_true rfl)) dX10_seed_7 rfl ?_
  refine x_lload_n (q := 11) (i := 3) C dX10_seed_10 rfl 2 rfl rfl ?_
  exact x_lret C dX10_seed_11 h
abbrev rm_X10_years : Room := { frames := 7, cells := 0, slots := 0, locals := 177 }
def vc_X10_years (σ : GS) (a0 : Int) (Post : Int → GS → Prop) : Prop :=
  (rg a0) ∧
  (vc_X10_in σ a0 1 30 (fun (z2 : Int) =>
    (rg z2) ∧
  ((¬ z2 = 0 →
    (vc_X10_layTrial σ  (fun (σ5 : GS) =>
      ∃ I6 : Nat → Int → Int → GS → Prop, (∃ n : Nat, I6 n 0 0 σ5) ∧ ∀ (n6 : Nat) (v2_6 : Int) (v3_6 : Int) (σ6 : GS), I6 n6 v2_6 v3_6 σ6 →
    ((rg v3_6) ∧
        ((a0 ≤ v3_6 →
          (Post v2_6 σ6)) ∧
        (¬ a0 ≤ v3_6 →
          ((0 ≤ (((up2 σ6 51 18 (((σ6 51 18) * 6364136223846793005) + 1442695040888963407)) 51 18) % 18446744073709551616 / 8589934592) ∧ (((up2 σ6 51 18 (((σ6 51 18) * 6364136223846793005) + 1442695040888963407)) 51 18) % 18446744073709551616 / 8589934592) ≤ 9223372036854775807) ∧
          ((rg ((((up2 σ6 51 18 (((σ6 51 18) * 6364136223846793005) + 1442695040888963407)) 51 18) % 18446744073709551616 / 8589934592) % 16)) ∧
          ((((((up2 σ6 51 18 (((σ6 51 18) * 6364136223846793005) + 1442695040888963407)) 51 18) % 18446744073709551616 / 8589934592) % 16) ≤ 13 →
            ((((((up2 σ6 51 18 (((σ6 51 18) * 6364136223846793005) + 1442695040888963407)) 51 18) % 18446744073709551616 / 8589934592) % 16) ≤ 9 →
              ((((((up2 σ6 51 18 (((σ6 51 18) * 6364136223846793005) + 1442695040888963407)) 51 18) % 18446744073709551616 / 8589934592) % 16) ≤ 4 →
                (vc_X10_tryThing (up2 σ6 51 18 (((σ6 51 18) * 6364136223846793005) + 1442695040888963407)) 1 0 ((((up2 σ6 51 18 (((σ6 51 18) * 6364136223846793005) + 1442695040888963407)) 51 18) % 18446744073709551616 / 8589934592) % 16) (fun (z14 : Int) (σ14 : GS) =>
                  vc_X10_wide σ14 1 (fun (z15 : Int) =>
                  ∃ n' : Nat, n' < n6 ∧ I6 n' (v2_6 + z15) (v3_6 + 1) σ14)))) ∧
              (¬ ((((up2 σ6 51 18 (((σ6 51 18) * 6364136223846793005) + 1442695040888963407)) 51 18) % 18446744073709551616 / 8589934592) % 16) ≤ 4 →
                (vc_X10_tryThing (up2 σ6 51 18 (((σ6 51 18) * 6364136223846793005) + 1442695040888963407)) 2 0 (((((up2 σ6 51 18 (((σ6 51 18) * 6364136223846793005) + 1442695040888963407)) 51 18) % 18446744073709551616 / 8589934592) % 16) - 5) (fun (z18 : Int) (σ18 : GS) =>
                  vc_X10_wide σ18 1 (fun (z19 : Int) =>
                  ∃ n' : Nat, n' < n6 ∧ I6 n' (v2_6 + z19) (v3_6 + 1) σ18)))))) ∧
            (¬ ((((up2 σ6 51 18 (((σ6 51 18) * 6364136223846793005) + 1442695040888963407)) 51 18) % 18446744073709551616 / 8589934592) % 16) ≤ 9 →
              (vc_X10_flingOn (up2 σ6 51 18 (((σ6 51 18) * 6364136223846793005) + 1442695040888963407)) 1 (fun (z22 : Int) (σ22 : GS) =>
                vc_X10_wide σ22 1 (fun (z23 : Int) =>
                ∃ n' : Nat, n' < n6 ∧ I6 n' (v2_6 + z23) (v3_6 + 1) σ22)))))) ∧
          (¬ ((((up2 σ6 51 18 (((σ6 51 18) * 6364136223846793005) + 1442695040888963407)) 51 18) % 18446744073709551616 / 8589934592) % 16) ≤ 13 →
            (vc_X10_snapOn (up2 σ6 51 18 (((σ6 51 18) * 6364136223846793005) + 1442695040888963407)) 1 (fun (σ26 : GS) =>
              vc_X10_wide σ26 1 (fun (z27 : Int) =>
              ∃ n' : Nat, n' < n6 ∧ I6 n' (v2_6 + z27) (v3_6 + 1) σ26))))))))))))) ∧
  (z2 = 0 →
    (Post (-2) σ)))))
set_option maxHeartbeats 4000000 in
set_option maxRecDepth 10000 in
theorem m_X10_years (l : Launch) {ad : Nat → Nat} {D : va_G} {cI cZ cG : ClassId} (hI : Ij ad) {σ : GS} {a0 : Int} {Post : Int → GS → Prop} (h : vc_X10_years σ a0 Post) : Met l yX10_years (wX yX10_years cX10_years 5 (some .int)) rm_X10_years (va_Pc [.ref (ad 51), .int (iI a0)] (Wd ad D cI cZ cG σ)) (QI ad D cI cZ cG Post) 0 0 (Aw ad) := by
  refine met_V (own := RX10) hI (by decide +kernel) rfl (Nat.le_of_ble_eq_true rfl) ?_
  intro p e s m args below meth c C
  unfold vc_X10_years at h
  show V p l e rm_X10_years s m args below meth c ad D cI cZ cG (Aw ad) 5 0 0 (MQ below (QI ad D cI cZ cG Post) args s 0 0 (Aw ad)) σ 0 [(0, .ref (ad 51)), (1, .int (iI a0))] []
  refine x_iload_n (q := 1) (i := 1) C dX10_years_0 rfl 1 rfl rfl ?_
  obtain ⟨o1, h⟩ := h
  refine x_i2l (q := 2) C dX10_years_1 o1 rfl ?_
  refine x_lconst (q := 3) (z := 1) C dX10_years_2 rfl rfl ?_
  refine x_ldc2 (q := 6) (z := 30) C dX10_years_3 t5_40 rfl rfl ?_
  refine x_staI (q := 9) C ck_RX10_52 t4_33 (m_X10_in l hI h) ⟨⟨rfl, rfl⟩, ⟨Nat.le_of_ble_eq_true rfl, Nat.le_of_ble_eq_true rfl⟩, ⟨Nat.zero_le _, Nat.zero_le _⟩⟩ dX10_years_6 rfl rfl (Nat.le_of_ble_eq_true rfl) rfl (fun z2 σ2 h => ?_)
  rw [h.1]
  have h := h.2
  obtain ⟨o3, h⟩ := h
  refine x_if_ne (q := 12) (tgt := 15) C dX10_years_9 rfl o3 rfl (fun c4 => ?_) (fun c4 => ?_)
  · have h := h.1 c4
    refine x_aload_n (q := 16) (i := 0) C dX10_years_15 rfl 0 rfl rfl ?_
    refine x_virV (q := 19) C (Nat.le_of_ble_eq_true rfl) ly_51 rfl ck_RX10_189 vk_X10_layTrial (m_X10_layTrial l hI h) ⟨⟨rfl, rfl⟩, ⟨Nat.le_of_ble_eq_true rfl, Nat.le_of_ble_eq_true rfl⟩, ⟨Nat.zero_le _, Nat.zero_le _⟩⟩ dX10_years_16 rfl rfl (Nat.le_of_ble_eq_true rfl) rfl (fun σ5 h => ?_)
    refine x_iconst (q := 20) (z := 0) C dX10_years_19 rfl rfl ?_
    refine x_istore_n (q := 21) (i := 2) (lv' := [(0, .ref (ad 51)), (1, .int (iI a0)), (2, .int (iI 0))]) C dX10_years_20 rfl (Nat.le_of_ble_eq_true rfl) [1, 2, 0] rfl rfl ?_
    refine x_iconst (q := 22) (z := 0) C dX10_years_21 rfl rfl ?_
    refine x_istore_n (q := 23) (i := 3) (lv' := [(0, .ref (ad 51)), (1, .int (iI a0)), (2, .int (iI 0)), (3, .int (iI 0))]) C dX10_years_22 rfl (Nat.le_of_ble_eq_true rfl) [1, 2, 3, 0] rfl rfl ?_
    obtain ⟨I6, ⟨n06, h06⟩, hs6⟩ := h
    have L6 : ∀ (n6 : Nat) (v2_6 : Int) (v3_6 : Int) (σ6 : GS), I6 n6 v2_6 v3_6 σ6 → V p l e rm_X10_years s m args below meth c ad D cI cZ cG (Aw ad) 5 0 0 (MQ below (QI ad D cI cZ cG Post) args s 0 0 (Aw ad)) σ6 23 [(0, .ref (ad 51)), (1, .int (iI a0)), (2, .int (iI v2_6)), (3, .int (iI v3_6))] [] := by
      intro n6
      induction n6 using Nat.strongRecOn with
      | ind n6 ih6 =>
        intro v2_6 v3_6 σ6 h
        have h := hs6 n6 v2_6 v3_6 σ6 h
        refine x_iload_n (q := 24) (i := 3) C dX10_years_23 rfl 3 rfl rfl ?_
        refine x_iload_n (q := 25) (i := 1) C dX10_years_24 rfl 1 rfl rfl ?_
        obtain ⟨o7, h⟩ := h
        refine x_icmp_ge (q := 28) (tgt := 132) C dX10_years_25 rfl ⟨o7, o1⟩ rfl (fun c8 => ?_) (fun c8 => ?_)
        · have h := h.1 c8
          refine x_iload_n (q := 133) (i := 2) C dX10_years_132 rfl 2 rfl rfl ?_
          exact x_iret C dX10_years_133 h
        · have h := h.2 c8
          refine x_aload_n (q := 29) (i := 0) C dX10_years_28 rfl 0 rfl rfl ?_
          refine x_aload_n (q := 30) (i := 0) C dX10_years_29 rfl 0 rfl rfl ?_
          refine x_getL (q := 33) C (Nat.le_of_ble_eq_true rfl) ly_51 fk_RX10_223 rfl dX10_years_30 rfl ?_
          refine x_ldc2 (q := 36) (z := 6364136223846793005) C dX10_years_33 t5_41 rfl rfl ?_
          refine x_lmul (q := 37) C dX10_years_36  rfl ?_
          refine x_ldc2 (q := 40) (z := 1442695040888963407) C dX10_years_37 t5_42 rfl rfl ?_
          refine x_ladd (q := 41) C dX10_years_40  rfl ?_
          refine x_putL (q := 44) C (Nat.le_of_ble_eq_true rfl) ly_51 fk_RX10_223 rfl tyX10 tyX10_ok nmX10 rfl (tyX10_ok 18 (Nat.le_of_ble_eq_true rfl)) dX10_years_41 rfl ?_
          refine x_aload_n (q := 45) (i := 0) C dX10_years_44 rfl 0 rfl rfl ?_
          refine x_getL (q := 48) C (Nat.le_of_ble_eq_true rfl) ly_51 fk_RX10_223 rfl dX10_years_45 rfl ?_
          refine x_bipush (q := 50) (z := 33) C dX10_years_48 rfl rfl ?_
          refine x_lushr33 (q := 51) C dX10_years_50  rfl ?_
          refine x_ldc2 (q := 54) (z := 16) C dX10_years_51 t5_43 rfl rfl ?_
          obtain ⟨o9, h⟩ := h
          refine x_lrem (q := 55) C dX10_years_54 ⟨o9, by decide⟩ rfl ?_
          refine x_l2i (q := 56) C dX10_years_55  rfl ?_
          refine x_istore (q := 58) (i := 4) (lv' := [(0, .ref (ad 51)), (1, .int (iI a0)), (2, .int (iI v2_6)), (3, .int (iI v3_6)), (4, .int (iI ((((up2 σ6 51 18 (((σ6 51 18) * 6364136223846793005) + 1442695040888963407)) 51 18) % 18446744073709551616 / 8589934592) % 16)))]) C dX10_years_56 (Nat.le_of_ble_eq_true rfl) [1, 2, 3, 4, 0] rfl rfl ?_
          refine x_iload (q := 60) C dX10_years_58 4 rfl rfl ?_
          refine x_bipush (q := 62) (z := 13) C dX10_years_60 rfl rfl ?_
          obtain ⟨o10, h⟩ := h
          refine x_icmp_le (q := 65) (tgt := 73) C dX10_years_62 rfl ⟨o10, by decide⟩ rfl (fun c11 => ?_) (fun c11 => ?_)
          · have h := h.1 c11
            refine x_iload (q := 75) C dX10_years_73 4 rfl rfl ?_
            refine x_bipush (q := 77) (z := 9) C dX10_years_75 rfl rfl ?_
            refine x_icmp_le (q := 80) (tgt := 89) C dX10_years_77 rfl ⟨o10, by decide⟩ rfl (fun c12 => ?_) (fun c12 => ?_)
            · have h := h.1 c12
              refine x_iload (q := 91) C dX10_years_89 4 rfl rfl ?_
              refine x_iconst (q := 92) (z := 4) C dX10_years_91 rfl rfl ?_
              refine x_icmp_le (q := 95) (tgt := 109) C dX10_years_92 rfl ⟨o10, by decide⟩ rfl (fun c13 => ?_) (fun c13 => ?_)
              · have h := h.1 c13
                refine x_aload_n (q := 110) (i := 0) C dX10_years_109 rfl 0 rfl rfl ?_
                refine x_iconst (q := 111) (z := 1) C dX10_years_110 rfl rfl ?_
                refine x_iconst (q := 112) (z := 0) C dX10_years_111 rfl rfl ?_
                refine x_iload (q := 114) C dX10_years_112 4 rfl rfl ?_
                refine x_virI (q := 117) C (Nat.le_of_ble_eq_true rfl) ly_51 rfl ck_RX10_192 vk_X10_tryThing (m_X10_tryThing l hI h) ⟨⟨rfl, rfl⟩, ⟨Nat.le_of_ble_eq_true rfl, Nat.le_of_ble_eq_true rfl⟩, ⟨Nat.zero_le _, Nat.zero_le _⟩⟩ dX10_years_114 rfl rfl (Nat.le_of_ble_eq_true rfl) rfl (fun z14 σ14 h => ?_)
                refine x_pop (q := 118) C dX10_years_117 rfl rfl ?_
                refine x_iload_n (q := 119) (i := 2) C dX10_years_118 rfl 2 rfl rfl ?_
                refine x_aload_n (q := 120) (i := 0) C dX10_years_119 rfl 0 rfl rfl ?_
                refine x_iconst (q := 121) (z := 1) C dX10_years_120 rfl rfl ?_
                refine x_virI (q := 124) C (Nat.le_of_ble_eq_true rfl) ly_51 rfl ck_RX10_179 vk_X10_wide (m_X10_wide l hI h) ⟨⟨rfl, rfl⟩, ⟨Nat.le_of_ble_eq_true rfl, Nat.le_of_ble_eq_true rfl⟩, ⟨Nat.zero_le _, Nat.zero_le _⟩⟩ dX10_years_121 rfl rfl (Nat.le_of_ble_eq_true rfl) rfl (fun z15 σ15 h => ?_)
                rw [h.1]
                have h := h.2
                refine x_iadd (q := 125) C dX10_years_124  rfl ?_
                refine x_istore_n (q := 126) (i := 2) (lv' := [(0, .ref (ad 51)), (1, .int (iI a0)), (2, .int (iI (v2_6 + z15))), (3, .int (iI v3_6)), (4, .int (iI ((((up2 σ6 51 18 (((σ6 51 18) * 6364136223846793005) + 1442695040888963407)) 51 18) % 18446744073709551616 / 8589934592) % 16)))]) C dX10_years_125 rfl (Nat.le_of_ble_eq_true rfl) [1, 2, 0, 3, 4] rfl rfl ?_
                refine x_iinc (q := 129) (z' := v3_6 + 1) (lv' := [(0, .ref (ad 51)), (1, .int (iI a0)), (2, .int (iI (v2_6 + z15))), (3, .int (iI (v3_6 + 1))), (4, .int (iI ((((up2 σ6 51 18 (((σ6 51 18) * 6364136223846793005) + 1442695040888963407)) 51 18) % 18446744073709551616 / 8589934592) % 16)))]) C dX10_years_126 3 rfl rfl (Nat.le_of_ble_eq_true rfl) [1, 2, 3, 0, 4] rfl rfl ?_
                refine x_goto (tgt := 23) C dX10_years_129 rfl ?_
                obtain ⟨n16, hl17, h⟩ := h
                refine x_sub [0, 1, 2, 3] rfl ?_
                exact ih6 n16 hl17 _ _ _ h
              · have h := h.2 c13
                refine x_aload_n (q := 96) (i := 0) C dX10_years_95 rfl 0 rfl rfl ?_
                refine x_iconst (q := 97) (z := 2) C dX10_years_96 rfl rfl ?_
                refine x_iconst (q := 98) (z := 0) C dX10_years_97 rfl rfl ?_
                refine x_iload (q := 100) C dX10_years_98 4 rfl rfl ?_
                refine x_iconst (q := 101) (z := 5) C dX10_years_100 rfl rfl ?_
                refine x_isub (q := 102) C dX10_years_101  rfl ?_
                refine x_virI (q := 105) C (Nat.le_of_ble_eq_true rfl) ly_51 rfl ck_RX10_192 vk_X10_tryThing (m_X10_tryThing l hI h) ⟨⟨rfl, rfl⟩, ⟨Nat.le_of_ble_eq_true rfl, Nat.le_of_ble_eq_true rfl⟩, ⟨Nat.zero_le _, Nat.zero_le _⟩⟩ dX10_years_102 rfl rfl (Nat.le_of_ble_eq_true rfl) rfl (fun z18 σ18 h => ?_)
                refine x_pop (q := 106) C dX10_years_105 rfl rfl ?_
                refine x_goto (tgt := 118) C dX10_years_106 rfl ?_
                refine x_iload_n (q := 119) (i := 2) C dX10_years_118 rfl 2 rfl rfl ?_
                refine x_aload_n (q := 120) (i := 0) C dX10_years_119 rfl 0 rfl rfl ?_
                refine x_iconst (q := 121) (z := 1) C dX10_years_120 rfl rfl ?_
                refine x_virI (q := 124) C (Nat.le_of_ble_eq_true rfl) ly_51 rfl ck_RX10_179 vk_X10_wide (m_X10_wide l hI h) ⟨⟨rfl, rfl⟩, ⟨Nat.le_of_ble_eq_true rfl, Nat.le_of_ble_eq_true rfl⟩, ⟨Nat.zero_le _, Nat.zero_le _⟩⟩ dX10_years_121 rfl rfl (Nat.le_of_ble_eq_true rfl) rfl (fun z19 σ19 h => ?_)
                rw [h.1]
                have h := h.2
                refine x_iadd (q := 125) C dX10_years_124  rfl ?_
                refine x_istore_n (q := 126) (i := 2) (lv' := [(0, .ref (ad 51)), (1, .int (iI a0)), (2, .int (iI (v2_6 + z19))), (3, .int (iI v3_6)), (4, .int (iI ((((up2 σ6 51 18 (((σ6 51 18) * 6364136223846793005) + 1442695040888963407)) 51 18) % 18446744073709551616 / 8589934592) % 16)))]) C dX10_years_125 rfl (Nat.le_of_ble_eq_true rfl) [1, 2, 0, 3, 4] rfl rfl ?_
                refine x_iinc (q := 129) (z' := v3_6 + 1) (lv' := [(0, .ref (ad 51)), (1, .int (iI a0)), (2, .int (iI (v2_6 + z19))), (3, .int (iI (v3_6 + 1))), (4, .int (iI ((((up2 σ6 51 18 (((σ6 51 18) * 6364136223846793005) + 1442695040888963407)) 51 18) % 18446744073709551616 / 8589934592) % 16)))]) C dX10_years_126 3 rfl rfl (Nat.le_of_ble_eq_true rfl) [1, 2, 3, 0, 4] rfl rfl ?_
                refine x_goto (tgt := 23) C dX10_years_129 rfl ?_
                obtain ⟨n20, hl21, h⟩ := h
                refine x_sub [0, 1, 2, 3] rfl ?_
                exact ih6 n20 hl21 _ _ _ h
            · have h := h.2 c12
              refine x_aload_n (q := 81) (i := 0) C dX10_years_80 rfl 0 rfl rfl ?_
              refine x_iconst (q := 82) (z := 1) C dX10_years_81 rfl rfl ?_
              refine x_virI (q := 85) C (Nat.le_of_ble_eq_true rfl) ly_51 rfl ck_RX10_151 vk_X10_flingOn (m_X10_flingOn l hI h) ⟨⟨rfl, rfl⟩, ⟨Nat.le_of_ble_eq_true rfl, Nat.le_of_ble_eq_true rfl⟩, ⟨Nat.zero_le _, Nat.zero_le _⟩⟩ dX10_years_82 rfl rfl (Nat.le_of_ble_eq_true rfl) rfl (fun z22 σ22 h => ?_)
              refine x_pop (q := 86) C dX10_years_85 rfl rfl ?_
              refine x_goto (tgt := 118) C dX10_years_86 rfl ?_
              refine x_iload_n (q := 119) (i := 2) C dX10_years_118 rfl 2 rfl rfl ?_
              refine x_aload_n (q := 120) (i := 0) C dX10_years_119 rfl 0 rfl rfl ?_
              refine x_iconst (q := 121) (z := 1) C dX10_years_120 rfl rfl ?_
              refine x_virI (q := 124) C (Nat.le_of_ble_eq_true rfl) ly_51 rfl ck_RX10_179 vk_X10_wide (m_X10_wide l hI h) ⟨⟨rfl, rfl⟩, ⟨Nat.le_of_ble_eq_true rfl, Nat.le_of_ble_eq_true rfl⟩, ⟨Nat.zero_le _, Nat.zero_le _⟩⟩ dX10_years_121 rfl rfl (Nat.le_of_ble_eq_true rfl) rfl (fun z23 σ23 h => ?_)
              rw [h.1]
              have h := h.2
              refine x_iadd (q := 125) C dX10_years_124  rfl ?_
              refine x_istore_n (q := 126) (i := 2) (lv' := [(0, .ref (ad 51)), (1, .int (iI a0)), (2, .int (iI (v2_6 + z23))), (3, .int (iI v3_6)), (4, .int (iI ((((up2 σ6 51 18 (((σ6 51 18) * 6364136223846793005) + 1442695040888963407)) 51 18) % 18446744073709551616 / 8589934592) % 16)))]) C dX10_years_125 rfl (Nat.le_of_ble_eq_true rfl) [1, 2, 0, 3, 4] rfl rfl ?_
              refine x_iinc (q := 129) (z' := v3_6 + 1) (lv' := [(0, .ref (ad 51)), (1, .int (iI a0)), (2, .int (iI (v2_6 + z23))), (3, .int (iI (v3_6 + 1))), (4, .int (iI ((((up2 σ6 51 18 (((σ6 51 18) * 6364136223846793005) + 1442695040888963407)) 51 18) % 18446744073709551616 / 8589934592) % 16)))]) C dX10_years_126 3 rfl rfl (Nat.le_of_ble_eq_true rfl) [1, 2, 3, 0, 4] rfl rfl ?_
              refine x_goto (tgt := 23) C dX10_years_129 rfl ?_
              obtain ⟨n24, hl25, h⟩ := h
              refine x_sub [0, 1, 2, 3] rfl ?_
              exact ih6 n24 hl25 _ _ _ h
          · have h := h.2 c11
            refine x_aload_n (q := 66) (i := 0) C dX10_years_65 rfl 0 rfl rfl ?_
            refine x_iconst (q := 67) (z := 1) C dX10_years_66 rfl rfl ?_
            refine x_virV (q := 70) C (Nat.le_of_ble_eq_true rfl) ly_51 rfl ck_RX10_157 vk_X10_snapOn (m_X10_snapOn l hI h) ⟨⟨rfl, rfl⟩, ⟨Nat.le_of_ble_eq_true rfl, Nat.le_of_ble_eq_true rfl⟩, ⟨Nat.zero_le _, Nat.zero_le _⟩⟩ dX10_years_67 rfl rfl (Nat.le_of_ble_eq_true rfl) rfl (fun σ26 h => ?_)
            refine x_goto (tgt := 118) C dX10_years_70 rfl ?_
            refine x_iload_n (q := 119) (i := 2) C dX10_years_118 rfl 2 rfl rfl ?_
            refine x_aload_n (q := 120) (i := 0) C dX10_years_119 rfl 0 rfl rfl ?_
            refine x_iconst (q := 121) (z := 1) C dX10_years_120 rfl rfl ?_
            refine x_virI (q := 124) C (Nat.le_of_ble_eq_true rfl) ly_51 rfl ck_RX10_179 vk_X10_wide (m_X10_wide l hI h) ⟨⟨rfl, rfl⟩, ⟨Nat.le_of_ble_eq_true rfl, Nat.le_of_ble_eq_true rfl⟩, ⟨Nat.zero_le _, Nat.zero_le _⟩⟩ dX10_years_121 rfl rfl (Nat.le_of_ble_eq_true rfl) rfl (fun z27 σ27 h => ?_)
            rw [h.1]
            have h := h.2
            refine x_iadd (q := 125) C dX10_years_124  rfl ?_
            refine x_istore_n (q := 126) (i := 2) (lv' := [(0, .ref (ad 51)), (1, .int (iI a0)), (2, .int (iI (v2_6 + z27))), (3, .int (iI v3_6)), (4, .int (iI ((((up2 σ6 51 18 (((σ6 51 18) * 6364136223846793005) + 1442695040888963407)) 51 18) % 18446744073709551616 / 8589934592) % 16)))]) C dX10_years_125 rfl (Nat.le_of_ble_eq_true rfl) [1, 2, 0, 3, 4] rfl rfl ?_
            refine x_iinc (q := 129) (z' := v3_6 + 1) (lv' := [(0, .ref (ad 51)), (1, .int (iI a0)), (2, .int (iI (v2_6 + z27))), (3, .int (iI (v3_6 + 1))), (4, .int (iI ((((up2 σ6 51 18 (((σ6 51 18) * 6364136223846793005) + 1442695040888963407)) 51 18) % 18446744073709551616 / 8589934592) % 16)))]) C dX10_years_126 3 rfl rfl (Nat.le_of_ble_eq_true rfl) [1, 2, 3, 0, 4] rfl rfl ?_
            refine x_goto (tgt := 23) C dX10_years_129 rfl ?_
            obtain ⟨n28, hl29, h⟩ := h
            refine x_sub [0, 1, 2, 3] rfl ?_
            exact ih6 n28 hl29 _ _ _ h
    exact L6 n06 0 0 σ5 h06
  · have h := h.2 c4
    refine x_bipush (q := 14) (z := (-2)) C dX10_years_12 rfl rfl ?_
    exact x_iret C dX10_years_14 h
abbrev rm_X10_keep : Room := { frames := 2, cells := 0, slots := 0, locals := 43 }
def vc_X10_keep (σ : GS) (a0 : Int) (Post : Int → GS → Prop) : Prop :=
  (rg a0) ∧
  (vc_X10_in σ a0 0 1 (fun (z2 : Int) =>
    (rg z2) ∧
  ((¬ z2 = 0 →
    ((0 ≤ a0 ∧ a0 < 2) ∧
    (∃ I6 : Nat → Int → GS → Prop, (∃ n : Nat, I6 n 0 (up2 σ 63 a0.toNat 1)) ∧ ∀ (n6 : Nat) (v2_6 : Int) (σ6 : GS), I6 n6 v2_6 σ6 →
    ((rg v2_6) ∧
        (((5 : Int) ≤ v2_6 →
          (vc_X10_gapsOf σ6 0 (fun (z9 : Int) =>
            Post z9 σ6))) ∧
        (¬ (5 : Int) ≤ v2_6 →
          ((0 ≤ v2_6 ∧ v2_6 < 10) ∧
          ((0 ≤ ((5 * a0) + v2_6) ∧ ((5 * a0) + v2_6) < 10) ∧
          (∃ n' : Nat, n' < n6 ∧ I6 n' (v2_6 + 1) (up2 σ6 64 ((5 * a0) + v2_6).toNat (σ6 54 v2_6.toNat))))))))))) ∧
  (z2 = 0 →
    (Post (-1) σ)))))
set_option maxHeartbeats 4000000 in
set_option maxRecDepth 10000 in
theorem m_X10_keep (l : Launch) {ad : Nat → Nat} {D : va_G} {cI cZ cG : ClassId} (hI : Ij ad) {σ : GS} {a0 : Int} {Post : Int → GS → Prop} (h : vc_X10_keep σ a0 Post) : Met l yX10_keep (wX yX10_keep cX10_keep 3 (some .int)) rm_X10_keep (va_Pc [.ref (ad 51), .int (iI a0)] (Wd ad D cI cZ cG σ)) (QI ad D cI cZ cG Post) 0 0 (Aw ad) := by
  refine met_V (own := RX10) hI (by decide +kernel) rfl (Nat.le_of_ble_eq_true rfl) ?_
  intro p e s m args below meth c C
  unfold vc_X10_keep at h
  show V p l e rm_X10_keep s m args below meth c ad D cI cZ cG (Aw ad) 3 0 0 (MQ below (QI ad D cI cZ cG Post) args s 0 0 (Aw ad)) σ 0 [(0, .ref (ad 51)), (1, .int (iI a0))] []
  refine x_iload_n (q := 1) (i := 1) C dX10_keep_0 rfl 1 rfl rfl ?_
  obtain ⟨o1, h⟩ := h
  refine x_i2l (q := 2) C dX10_keep_1 o1 rfl ?_
  refine x_lconst (q := 3) (z := 0) C dX10_keep_2 rfl rfl ?_
  refine x_lconst (q := 4) (z := 1) C dX10_keep_3 rfl rfl ?_
  refine x_staI (q := 7) C ck_RX10_52 t4_33 (m_X10_in l hI h) ⟨⟨rfl, rfl⟩, ⟨Nat.le_of_ble_eq_true rfl, Nat.le_of_ble_eq_true rfl⟩, ⟨Nat.zero_le _, Nat.zero_le _⟩⟩ dX10_keep_4 rfl rfl (Nat.le_of_ble_eq_true rfl) rfl (fun z2 σ2 h => ?_)
  rw [h.1]
  have h := h.2
  obtain ⟨o3, h⟩ := h
  refine x_if_ne (q := 10) (tgt := 12) C dX10_keep_7 rfl o3 rfl (fun c4 => ?_) (fun c4 => ?_)
  · have h := h.1 c4
    refine x_aload_n (q := 13) (i := 0) C dX10_keep_12 rfl 0 rfl rfl ?_
    refine x_getR (q := 16) (c0 := 63) C (Nat.le_of_ble_eq_true rfl) ly_51 fk_RX10_43 rfl dX10_keep_13 rfl ?_
    refine x_iload_n (q := 17) (i := 1) C dX10_keep_16 rfl 1 rfl rfl ?_
    refine x_iconst (q := 18) (z := 1) C dX10_keep_17 rfl rfl ?_
    obtain ⟨o5, h⟩ := h
    refine x_bast (q := 19) C (Nat.le_of_ble_eq_true rfl) ly_63 dX10_keep_18 (ix o5 rfl) (Nat.le_of_ble_eq_true rfl) (by decide) rfl ?_
    refine x_iconst (q := 20) (z := 0) C dX10_keep_19 rfl rfl ?_
    refine x_istore_n (q := 21) (i := 2) (lv' := [(0, .ref (ad 51)), (1, .int (iI a0)), (2, .int (iI 0))]) C dX10_keep_20 rfl (Nat.le_of_ble_eq_true rfl) [1, 2, 0] rfl rfl ?_
    obtain ⟨I6, ⟨n06, h06⟩, hs6⟩ := h
    have L6 : ∀ (n6 : Nat) (v2_6 : Int) (σ6 : GS), I6 n6 v2_6 σ6 → V p l e rm_X10_keep s m args below meth c ad D cI cZ cG (Aw ad) 3 0 0 (MQ below (QI ad D cI cZ cG Post) args s 0 0 (Aw ad)) σ6 21 [(0, .ref (ad 51)), (1, .int (iI a0)), (2, .int (iI v2_6))] [] := by
      intro n6
      induction n6 using Nat.strongRecOn with
      | ind n6 ih6 =>
        intro v2_6 σ6 h
        have h := hs6 n6 v2_6 σ6 h
        refine x_iload_n (q := 22) (i := 2) C dX10_keep_21 rfl 2 rfl rfl ?_
        refine x_iconst (q := 23) (z := 5) C dX10_keep_22 rfl rfl ?_
        obtain ⟨o7, h⟩ := h
        refine x_icmp_ge (q := 26) (tgt := 48) C dX10_keep_23 rfl ⟨o7, by decide⟩ rfl (fun c8 => ?_) (fun c8 => ?_)
        · have h := h.1 c8
          refine x_aload_n (q := 49) (i := 0) C dX10_keep_48 rfl 0 rfl rfl ?_
          refine x_iconst (q := 50) (z := 0) C dX10_keep_49 rfl rfl ?_
          refine x_virI (q := 53) C (Nat.le_of_ble_eq_true rfl) ly_51 rfl ck_RX10_154 vk_X10_gapsOf (m_X10_gapsOf l hI h) ⟨⟨rfl, rfl⟩, ⟨Nat.le_of_ble_eq_true rfl, Nat.le_of_ble_eq_true rfl⟩, ⟨Nat.zero_le _, Nat.zero_le _⟩⟩ dX10_keep_50 rfl rfl (Nat.le_of_ble_eq_true rfl) rfl (fun z9 σ9 h => ?_)
          rw [h.1]
          have h := h.2
          exact x_iret C dX10_keep_53 h
        · have h := h.2 c8
          refine x_aload_n (q := 27) (i := 0) C dX10_keep_26 rfl 0 rfl rfl ?_
          refine x_getR (q := 30) (c0 := 64) C (Nat.le_of_ble_eq_true rfl) ly_51 fk_RX10_47 rfl dX10_keep_27 rfl ?_
          refine x_iconst (q := 31) (z := 5) C dX10_keep_30 rfl rfl ?_
          refine x_iload_n (q := 32) (i := 1) C dX10_keep_31 rfl 1 rfl rfl ?_
          refine x_imul (q := 33) C dX10_keep_32  rfl ?_
          refine x_iload_n (q := 34) (i := 2) C dX10_keep_33 rfl 2 rfl rfl ?_
          refine x_iadd (q := 35) C dX10_keep_34  rfl ?_
          refine x_aload_n (q := 36) (i := 0) C dX10_keep_35 rfl 0 rfl rfl ?_
          refine x_getR (q := 39) (c0 := 54) C (Nat.le_of_ble_eq_true rfl) ly_51 fk_RX10_16 rfl dX10_keep_36 rfl ?_
          refine x_iload_n (q := 40) (i := 2) C dX10_keep_39 rfl 2 rfl rfl ?_
          obtain ⟨o10, h⟩ := h
          refine x_iald (q := 41) C (Nat.le_of_ble_eq_true rfl) ly_54 dX10_keep_40 (ix o10 rfl) (Nat.le_of_ble_eq_true rfl) rfl ?_
          obtain ⟨o11, h⟩ := h
          refine x_iast (q := 42) C (Nat.le_of_ble_eq_true rfl) ly_64 dX10_keep_41 (ix o11 rfl) (Nat.le_of_ble_eq_true rfl)  rfl ?_
          refine x_iinc (q := 45) (z' := v2_6 + 1) (lv' := [(0, .ref (ad 51)), (1, .int (iI a0)), (2, .int (iI (v2_6 + 1)))]) C dX10_keep_42 2 rfl rfl (Nat.le_of_ble_eq_true rfl) [1, 2, 0] rfl rfl ?_
          refine x_goto (tgt := 21) C dX10_keep_45 rfl ?_
          obtain ⟨n12, hl13, h⟩ := h
          refine x_sub [0, 1, 2] rfl ?_
          exact ih6 n12 hl13 _ _ h
    exact L6 n06 0 (up2 σ 63 a0.toNat 1) h06
  · have h := h.2 c4
    refine x_iconst (q := 11) (z := (-1)) C dX10_keep_10 rfl rfl ?_
    exact x_iret C dX10_keep_11 h
abbrev rm_X10_again : Room := { frames := 2, cells := 0, slots := 0, locals := 43 }
def vc_X10_again (σ : GS) (a0 : Int) (Post : Int → GS → Prop) : Prop :=
  (rg a0) ∧
  (vc_X10_in σ a0 0 1 (fun (z2 : Int) =>
    (rg z2) ∧
  ((¬ z2 = 0 →
    ((0 ≤ a0 ∧ a0 < 2) ∧
    ((rg (σ 63 a0.toNat)) ∧
    ((¬ (σ 63 a0.toNat) = 0 →
      (∃ I8 : Nat → Int → GS → Prop, (∃ n : Nat, I8 n 0 σ) ∧ ∀ (n8 : Nat) (v2_8 : Int) (σ8 : GS), I8 n8 v2_8 σ8 →
      ((rg v2_8) ∧
          (((5 : Int) ≤ v2_8 →
            (vc_X10_gapsOf (up2 σ8 51 11 0) 0 (fun (z11 : Int) =>
              Post z11 (up2 σ8 51 11 0)))) ∧
          (¬ (5 : Int) ≤ v2_8 →
            ((0 ≤ ((5 * a0) + v2_8) ∧ ((5 * a0) + v2_8) < 10) ∧
            ((0 ≤ v2_8 ∧ v2_8 < 10) ∧
            (∃ n' : Nat, n' < n8 ∧ I8 n' (v2_8 + 1) (up2 σ8 54 v2_8.toNat (σ8 64 ((5 * a0) + v2_8).toNat)))))))))) ∧
    ((σ 63 a0.toNat) = 0 →
      (Post (-3) σ)))))) ∧
  (z2 = 0 →
    (Post (-1) σ)))))
set_option maxHeartbeats 4000000 in
set_option maxRecDepth 10000 in
theorem m_X10_again (l : Launch) {ad : Nat → Nat} {D : va_G} {cI cZ cG : ClassId} (hI : Ij ad) {σ : GS} {a0 : Int} {Post : Int → GS → Prop} (h : vc_X10_again σ a0 Post) : Met l yX10_again (wX yX10_again cX10_again 3 (some .int)) rm_X10_again (va_Pc [.ref (ad 51), .int (iI a0)] (Wd ad D cI cZ cG σ)) (QI ad D cI cZ cG Post) 0 0 (Aw ad) := by
  refine met_V (own := RX10) hI (by decide +kernel) rfl (Nat.le_of_ble_eq_true rfl) ?_
  intro p e s m args below meth c C
  unfold vc_X10_again at h
  show V p l e rm_X10_again s m args below meth c ad D cI cZ cG (Aw ad) 3 0 0 (MQ below (QI ad D cI cZ cG Post) args s 0 0 (Aw ad)) σ 0 [(0, .ref (ad 51)), (1, .int (iI a0))] []
  refine x_iload_n (q := 1) (i := 1) C dX10_again_0 rfl 1 rfl rfl ?_
  obtain ⟨o1, h⟩ := h
  refine x_i2l (q := 2) C dX10_again_1 o1 rfl ?_
  refine x_lconst (q := 3) (z := 0) C dX10_again_2 rfl rfl ?_
  refine x_lconst (q := 4) (z := 1) C dX10_again_3 rfl rfl ?_
  refine x_staI (q := 7) C ck_RX10_52 t4_33 (m_X10_in l hI h) ⟨⟨rfl, rfl⟩, ⟨Nat.le_of_ble_eq_true rfl, Nat.le_of_ble_eq_true rfl⟩, ⟨Nat.zero_le _, Nat.zero_le _⟩⟩ dX10_again_4 rfl rfl (Nat.le_of_ble_eq_true rfl) rfl (fun z2 σ2 h => ?_)
  rw [h.1]
  have h := h.2
  obtain ⟨o3, h⟩ := h
  refine x_if_ne (q := 10) (tgt := 12) C dX10_again_7 rfl o3 rfl (fun c4 => ?_) (fun c4 => ?_)
  · have h := h.1 c4
    refine x_aload_n (q := 13) (i := 0) C dX10_again_12 rfl 0 rfl rfl ?_
    refine x_getR (q := 16) (c0 := 63) C (Nat.le_of_ble_eq_true rfl) ly_51 fk_RX10_43 rfl dX10_again_13 rfl ?_
    refine x_iload_n (q := 17) (i := 1) C dX10_again_16 rfl 1 rfl rfl ?_
    obtain ⟨o5, h⟩ := h
    refine x_bald (q := 18) C (Nat.le_of_ble_eq_true rfl) ly_63 dX10_again_17 (ix o5 rfl) (Nat.le_of_ble_eq_true rfl) rfl ?_
    obtain ⟨o6, h⟩ := h
    refine x_if_ne (q := 21) (tgt := 24) C dX10_again_18 rfl o6 rfl (fun c7 => ?_) (fun c7 => ?_)
    · have h := h.1 c7
      refine x_iconst (q := 25) (z := 0) C dX10_again_24 rfl rfl ?_
      refine x_istore_n (q := 26) (i := 2) (lv' := [(0, .ref (ad 51)), (1, .int (iI a0)), (2, .int (iI 0))]) C dX10_again_25 rfl (Nat.le_of_ble_eq_true rfl) [1, 2, 0] rfl rfl ?_
      obtain ⟨I8, ⟨n08, h08⟩, hs8⟩ := h
      have L8 : ∀ (n8 : Nat) (v2_8 : Int) (σ8 : GS), I8 n8 v2_8 σ8 → V p l e rm_X10_again s m args below meth c ad D cI cZ cG (Aw ad) 3 0 0 (MQ below (QI ad D cI cZ cG Post) args s 0 0 (Aw ad)) σ8 26 [(0, .ref (ad 51)), (1, .int (iI a0)), (2, .int (iI v2_8))] [] := by
        intro n8
        induction n8 using Nat.strongRecOn with
        | ind n8 ih8 =>
          intro v2_8 σ8 h
          have h := hs8 n8 v2_8 σ8 h
          refine x_iload_n (q := 27) (i := 2) C dX10_again_26 rfl 2 rfl rfl ?_
          refine x_iconst (q := 28) (z := 5) C dX10_again_27 rfl rfl ?_
          obtain ⟨o9, h⟩ := h
          refine x_icmp_ge (q := 31) (tgt := 53) C dX10_again_28 rfl ⟨o9, by decide⟩ rfl (fun c10 => ?_) (fun c10 => ?_)
          · have h := h.1 c10
            refine x_aload_n (q := 54) (i := 0) C dX10_again_53 rfl 0 rfl rfl ?_
            refine x_iconst (q := 55) (z := 0) C dX10_again_54 rfl rfl ?_
            refine x_putI (q := 58) C (Nat.le_of_ble_eq_true rfl) ly_51 fk_RX10_78 rfl tyX10 tyX10_ok nmX10 rfl (tyX10_ok 11 (Nat.le_of_ble_eq_true rfl)) dX10_again_55 rfl ?_
            refine x_aload_n (q := 59) (i := 0) C dX10_again_58 rfl 0 rfl rfl ?_
            refine x_iconst (q := 60) (z := 0) C dX10_again_59 rfl rfl ?_
            refine x_virI (q := 63) C (Nat.le_of_ble_eq_true rfl) ly_51 rfl ck_RX10_154 vk_X10_gapsOf (m_X10_gapsOf l hI h) ⟨⟨rfl, rfl⟩, ⟨Nat.le_of_ble_eq_true rfl, Nat.le_of_ble_eq_true rfl⟩, ⟨Nat.zero_le _, Nat.zero_le _⟩⟩ dX10_again_60 rfl rfl (Nat.le_of_ble_eq_true rfl) rfl (fun z11 σ11 h => ?_)
            rw [h.1]
            have h := h.2
            exact x_iret C dX10_again_63 h
          · have h := h.2 c10
            refine x_aload_n (q := 32) (i := 0) C dX10_again_31 rfl 0 rfl rfl ?_
            refine x_getR (q := 35) (c0 := 54) C (Nat.le_of_ble_eq_true rfl) ly_51 fk_RX10_16 rfl dX10_again_32 rfl ?_
            refine x_iload_n (q := 36) (i := 2) C dX10_again_35 rfl 2 rfl rfl ?_
            refine x_aload_n (q := 37) (i := 0) C dX10_again_36 rfl 0 rfl rfl ?_
            refine x_getR (q := 40) (c0 := 64) C (Nat.le_of_ble_eq_true rfl) ly_51 fk_RX10_47 rfl dX10_again_37 rfl ?_
            refine x_iconst (q := 41) (z := 5) C dX10_again_40 rfl rfl ?_
            refine x_iload_n (q := 42) (i := 1) C dX10_again_41 rfl 1 rfl rfl ?_
            refine x_imul (q := 43) C dX10_again_42  rfl ?_
            refine x_iload_n (q := 44) (i := 2) C dX10_again_43 rfl 2 rfl rfl ?_
            refine x_iadd (q := 45) C dX10_again_44  rfl ?_
            obtain ⟨o12, h⟩ := h
            refine x_iald (q := 46) C (Nat.le_of_ble_eq_true rfl) ly_64 dX10_again_45 (ix o12 rfl) (Nat.le_of_ble_eq_true rfl) rfl ?_
            obtain ⟨o13, h⟩ := h
            refine x_iast (q := 47) C (Nat.le_of_ble_eq_true rfl) ly_54 dX10_again_46 (ix o13 rfl) (Nat.le_of_ble_eq_true rfl)  rfl ?_
            refine x_iinc (q := 50) (z' := v2_8 + 1) (lv' := [(0, .ref (ad 51)), (1, .int (iI a0)), (2, .int (iI (v2_8 + 1)))]) C dX10_again_47 2 rfl rfl (Nat.le_of_ble_eq_true rfl) [1, 2, 0] rfl rfl ?_
            refine x_goto (tgt := 26) C dX10_again_50 rfl ?_
            obtain ⟨n14, hl15, h⟩ := h
            refine x_sub [0, 1, 2] rfl ?_
            exact ih8 n14 hl15 _ _ h
      exact L8 n08 0 σ h08
    · have h := h.2 c7
      refine x_bipush (q := 23) (z := (-3)) C dX10_again_21 rfl rfl ?_
      exact x_iret C dX10_again_23 h
  · have h := h.2 c4
    refine x_iconst (q := 11) (z := (-1)) C dX10_again_10 rfl rfl ?_
    exact x_iret C dX10_again_11 h
abbrev rm_X10_count : Room := { frames := 4, cells := 0, slots := 0, locals := 100 }
def vc_X10_count (σ : GS) (a0 : Int) (Post : Int → Prop) : Prop :=
  (rg a0) ∧
  ((a0 < 0 ∨ 8 < a0 →
    (Post (-2))) ∧
  (a0 = 0 →
    (Post (σ 51 8))) ∧
  (a0 = 1 →
    (Post (σ 51 0))) ∧
  (a0 = 2 →
    (vc_X10_wide σ 0 (fun (z2 : Int) =>
        Post z2))) ∧
  (a0 = 3 →
    (vc_X10_placesSeen σ 0 63 (fun (z3 : Int) =>
        Post z3))) ∧
  (a0 = 4 →
    (vc_X10_figuresOf σ 0 (fun (z4 : Int) =>
        Post z4))) ∧
  (a0 = 5 →
    (vc_X10_gapsOf σ 0 (fun (z5 : Int) =>
        Post z5))) ∧
  (a0 = 6 →
    (Post (σ 51 9))) ∧
  (a0 = 7 →
    (Post (σ 51 11))) ∧
  (a0 = 8 →
    (Post (σ 51 14))))
set_option maxHeartbeats 4000000 in
set_option maxRecDepth 10000 in
theorem m_X10_count (l : Launch) {ad : Nat → Nat} {D : va_G} {cI cZ cG : ClassId} (hI : Ij ad) {σ : GS} {a0 : Int} {Post : Int → Prop} (h : vc_X10_count σ a0 Post) : Met l yX10_count (wX yX10_count cX10_count 2 (some .int)) rm_X10_count (va_Pc [.ref (ad 51), .int (iI a0)] (Wd ad D cI cZ cG σ)) (QI ad D cI cZ cG (fun z u => u = σ ∧ Post z)) 0 0 (Aw ad) := by
  refine met_V (own := RX10) hI (by decide +kernel) rfl (Nat.le_of_ble_eq_true rfl) ?_
  intro p e s m args below meth c C
  unfold vc_X10_count at h
  show V p l e rm_X10_count s m args below meth c ad D cI cZ cG (Aw ad) 2 0 0 (MQ below (QI ad D cI cZ cG (fun z u => u = σ ∧ Post z)) args s 0 0 (Aw ad)) σ 0 [(0, .ref (ad 51)), (1, .int (iI a0))] []
  refine x_iload_n (q := 1) (i := 1) C dX10_count_0 rfl 1 rfl rfl ?_
  obtain ⟨o1, h⟩ := h
  refine x_table C dX10_count_1 o1 103 rfl [52, 57, 62, 68, 76, 82, 88, 93, 98] rfl rfl (fun c0 => ?_) (fun i t ht ha => ?_)
  · have h := h.1 c0
    refine x_bipush (q := 105) (z := (-2)) C dX10_count_103 rfl rfl ?_
    exact x_iret C dX10_count_105 ⟨rfl, h⟩
  · rcases i with _ | _ | _ | _ | _ | _ | _ | _ | _ | i
    · cases ht
      have h := h.2.1 (by omega)
      refine x_aload_n (q := 53) (i := 0) C dX10_count_52 rfl 0 rfl rfl ?_
      refine x_getI (q := 56) C (Nat.le_of_ble_eq_true rfl) ly_51 fk_RX10_56 rfl dX10_count_53 rfl ?_
      exact x_iret C dX10_count_56 ⟨rfl, h⟩
    · cases ht
      have h := h.2.2.1 (by omega)
      refine x_aload_n (q := 58) (i := 0) C dX10_count_57 rfl 0 rfl rfl ?_
      refine x_getI (q := 61) C (Nat.le_of_ble_eq_true rfl) ly_51 fk_RX10_75 rfl dX10_count_58 rfl ?_
      exact x_iret C dX10_count_61 ⟨rfl, h⟩
    · cases ht
      have h := h.2.2.2.1 (by omega)
      refine x_aload_n (q := 63) (i := 0) C dX10_count_62 rfl 0 rfl rfl ?_
      refine x_iconst (q := 64) (z := 0) C dX10_count_63 rfl rfl ?_
      refine x_virI (q := 67) C (Nat.le_of_ble_eq_true rfl) ly_51 rfl ck_RX10_179 vk_X10_wide (m_X10_wide l hI h) ⟨⟨rfl, rfl⟩, ⟨Nat.le_of_ble_eq_true rfl, Nat.le_of_ble_eq_true rfl⟩, ⟨Nat.zero_le _, Nat.zero_le _⟩⟩ dX10_count_64 rfl rfl (Nat.le_of_ble_eq_true rfl) rfl (fun z2 σ2 h => ?_)
      rw [h.1]
      have h := h.2
      exact x_iret C dX10_count_67 ⟨rfl, h⟩
    · cases ht
      have h := h.2.2.2.2.1 (by omega)
      refine x_aload_n (q := 69) (i := 0) C dX10_count_68 rfl 0 rfl rfl ?_
      refine x_iconst (q := 70) (z := 0) C dX10_count_69 rfl rfl ?_
      refine x_bipush (q := 72) (z := 63) C dX10_count_70 rfl rfl ?_
      refine x_virI (q := 75) C (Nat.le_of_ble_eq_true rfl) ly_51 rfl ck_RX10_209 vk_X10_placesSeen (m_X10_placesSeen l hI h) ⟨⟨rfl, rfl⟩, ⟨Nat.le_of_ble_eq_true rfl, Nat.le_of_ble_eq_true rfl⟩, ⟨Nat.zero_le _, Nat.zero_le _⟩⟩ dX10_count_72 rfl rfl (Nat.le_of_ble_eq_true rfl) rfl (fun z3 σ3 h => ?_)
      rw [h.1]
      have h := h.2
      exact x_iret C dX10_count_75 ⟨rfl, h⟩
    · cases ht
      have h := h.2.2.2.2.2.1 (by omega)
      refine x_aload_n (q := 77) (i := 0) C dX10_count_76 rfl 0 rfl rfl ?_
      refine x_iconst (q := 78) (z := 0) C dX10_count_77 rfl rfl ?_
      refine x_virI (q := 81) C (Nat.le_of_ble_eq_true rfl) ly_51 rfl ck_RX10_173 vk_X10_figuresOf (m_X10_figuresOf l hI h) ⟨⟨rfl, rfl⟩, ⟨Nat.le_of_ble_eq_true rfl, Nat.le_of_ble_eq_true rfl⟩, ⟨Nat.zero_le _, Nat.zero_le _⟩⟩ dX10_count_78 rfl rfl (Nat.le_of_ble_eq_true rfl) rfl (fun z4 σ4 h => ?_)
      rw [h.1]
      have h := h.2
      exact x_iret C dX10_count_81 ⟨rfl, h⟩
    · cases ht
      have h := h.2.2.2.2.2.2.1 (by omega)
      refine x_aload_n (q := 83) (i := 0) C dX10_count_82 rfl 0 rfl rfl ?_
      refine x_iconst (q := 84) (z := 0) C dX10_count_83 rfl rfl ?_
      refine x_virI (q := 87) C (Nat.le_of_ble_eq_true rfl) ly_51 rfl ck_RX10_154 vk_X10_gapsOf (m_X10_gapsOf l hI h) ⟨⟨rfl, rfl⟩, ⟨Nat.le_of_ble_eq_true rfl, Nat.le_of_ble_eq_true rfl⟩, ⟨Nat.zero_le _, Nat.zero_le _⟩⟩ dX10_count_84 rfl rfl (Nat.le_of_ble_eq_true rfl) rfl (fun z5 σ5 h => ?_)
      rw [h.1]
      have h := h.2
      exact x_iret C dX10_count_87 ⟨rfl, h⟩
    · cases ht
      have h := h.2.2.2.2.2.2.2.1 (by omega)
      refine x_aload_n (q := 89) (i := 0) C dX10_count_88 rfl 0 rfl rfl ?_
      refine x_getI (q := 92) C (Nat.le_of_ble_eq_true rfl) ly_51 fk_RX10_94 rfl dX10_count_89 rfl ?_
      exact x_iret C dX10_count_92 ⟨rfl, h⟩
    · cases ht
      have h := h.2.2.2.2.2.2.2.2.1 (by omega)
      refine x_aload_n (q := 94) (i := 0) C dX10_count_93 rfl 0 rfl rfl ?_
      refine x_getI (q := 97) C (Nat.le_of_ble_eq_true rfl) ly_51 fk_RX10_78 rfl dX10_count_94 rfl ?_
      exact x_iret C dX10_count_97 ⟨rfl, h⟩
    · cases ht
      have h := h.2.2.2.2.2.2.2.2.2 (by omega)
      refine x_aload_n (q := 99) (i := 0) C dX10_count_98 rfl 0 rfl rfl ?_
      refine x_getI (q := 102) C (Nat.le_of_ble_eq_true rfl) ly_51 fk_RX10_196 rfl dX10_count_99 rfl ?_
      exact x_iret C dX10_count_102 ⟨rfl, h⟩
    · simp at ht
