abbrev rm_X9_weighPair : Room := { frames := 4, cells := 0, slots := 0, locals := 93 }
def vc_X9_weighPair (σ : GS) (a0 : Int) (a1 : Int) (a2 : Int) (Post : GS → Prop) : Prop :=
  (0 ≤ a2 ∧ a2 ≤ 2147483647) ∧
  (vc_X2_copyFrom σ 8 6 (fun (σ2 : GS) =>
    (rg (a2 / 2 ^ (1 : Int).toNat)) ∧
  ((¬ (a2 / 2 ^ (1 : Int).toNat) = 1 →
    ((rg (a2 % 2)) ∧
    ((¬ (a2 % 2) = 1 →
      (vc_X6_layAll σ2 8 0 (fun (σ7 : GS) =>
        vc_X6_cellsSeen σ7 a0 (fun (z8 : Int) =>
        vc_X6_cellsSeen σ7 (a1 + 1) (fun (z9 : Int) =>
        (0 ≤ a2 ∧ a2 < 4) ∧
      (vc_X6_cellsSeen (up2 σ7 48 a2.toNat (((2 * z8) - z9) - (a2 / 2 ^ (1 : Int).toNat))) a1 (fun (z11 : Int) =>
        vc_X6_cellsSeen (up2 σ7 48 a2.toNat (((2 * z8) - z9) - (a2 / 2 ^ (1 : Int).toNat))) (a0 + 1) (fun (z12 : Int) =>
        Post (up2 (up2 σ7 48 a2.toNat (((2 * z8) - z9) - (a2 / 2 ^ (1 : Int).toNat))) 49 a2.toNat (((2 * z11) - z12) - (a2 % 2))))))))))) ∧
    ((a2 % 2) = 1 →
      (vc_X2_widen σ2 8 a1 (fun (z13 : Int) (σ13 : GS) =>
        vc_X6_layAll σ13 8 0 (fun (σ14 : GS) =>
        vc_X6_cellsSeen σ14 a0 (fun (z15 : Int) =>
        vc_X6_cellsSeen σ14 (a1 + 1) (fun (z16 : Int) =>
        (0 ≤ a2 ∧ a2 < 4) ∧
      (vc_X6_cellsSeen (up2 σ14 48 a2.toNat (((2 * z15) - z16) - (a2 / 2 ^ (1 : Int).toNat))) a1 (fun (z18 : Int) =>
        vc_X6_cellsSeen (up2 σ14 48 a2.toNat (((2 * z15) - z16) - (a2 / 2 ^ (1 : Int).toNat))) (a0 + 1) (fun (z19 : Int) =>
        Post (up2 (up2 σ14 48 a2.toNat (((2 * z15) - z16) - (a2 / 2 ^ (1 : Int).toNat))) 49 a2.toNat (((2 * z18) - z19) - (a2 % 2))))))))))))))) ∧
  ((a2 / 2 ^ (1 : Int).toNat) = 1 →
    (vc_X2_widen σ2 8 a0 (fun (z20 : Int) (σ20 : GS) =>
      (rg (a2 % 2)) ∧
    ((¬ (a2 % 2) = 1 →
      (vc_X6_layAll σ20 8 0 (fun (σ23 : GS) =>
        vc_X6_cellsSeen σ23 a0 (fun (z24 : Int) =>
        vc_X6_cellsSeen σ23 (a1 + 1) (fun (z25 : Int) =>
        (0 ≤ a2 ∧ a2 < 4) ∧
      (vc_X6_cellsSeen (up2 σ23 48 a2.toNat (((2 * z24) - z25) - (a2 / 2 ^ (1 : Int).toNat))) a1 (fun (z27 : Int) =>
        vc_X6_cellsSeen (up2 σ23 48 a2.toNat (((2 * z24) - z25) - (a2 / 2 ^ (1 : Int).toNat))) (a0 + 1) (fun (z28 : Int) =>
        Post (up2 (up2 σ23 48 a2.toNat (((2 * z24) - z25) - (a2 / 2 ^ (1 : Int).toNat))) 49 a2.toNat (((2 * z27) - z28) - (a2 % 2))))))))))) ∧
    ((a2 % 2) = 1 →
      (vc_X2_widen σ20 8 a1 (fun (z29 : Int) (σ29 : GS) =>
        vc_X6_layAll σ29 8 0 (fun (σ30 : GS) =>
        vc_X6_cellsSeen σ30 a0 (fun (z31 : Int) =>
        vc_X6_cellsSeen σ30 (a1 + 1) (fun (z32 : Int) =>
        (0 ≤ a2 ∧ a2 < 4) ∧
      (vc_X6_cellsSeen (up2 σ30 48 a2.toNat (((2 * z31) - z32) - (a2 / 2 ^ (1 : Int).toNat))) a1 (fun (z34 : Int) =>
        vc_X6_cellsSeen (up2 σ30 48 a2.toNat (((2 * z31) - z32) - (a2 / 2 ^ (1 : Int).toNat))) (a0 + 1) (fun (z35 : Int) =>
        Post (up2 (up2 σ30 48 a2.toNat (((2 * z31) - z32) - (a2 / 2 ^ (1 : Int).toNat))) 49 a2.toNat (((2 * z34) - z35) - (a2 % 2)))))))))))))))))))
set_option maxHeartbeats 4000000 in
set_option maxRecDepth 10000 in
theorem m_X9_weighPair (l : Launch) {ad : Nat → Nat} {D : va_G} {cI cZ cG : ClassId} (hI : Ij ad) {σ : GS} {a0 : Int} {a1 : Int} {a2 : Int} {Post : GS → Prop} (h : vc_X9_weighPair σ a0 a1 a2 Post) : Met l yX9_weighPair (wX yX9_weighPair cX9_weighPair 6 none) rm_X9_weighPair (va_Pc [.ref (ad 0), .int (iI a0), .int (iI a1), .int (iI a2)] (Wd ad D cI cZ cG σ)) (QV ad D cI cZ cG Post) 0 0 (Aw ad) := by
  refine met_V (own := RX9) hI (by decide +kernel) rfl (Nat.le_of_ble_eq_true rfl) ?_
  intro p e s m args below meth c C
  unfold vc_X9_weighPair at h
  show V p l e rm_X9_weighPair s m args below meth c ad D cI cZ cG (Aw ad) 6 0 0 (MQ below (QV ad D cI cZ cG Post) args s 0 0 (Aw ad)) σ 0 [(0, .ref (ad 0)), (1, .int (iI a0)), (2, .int (iI a1)), (3, .int (iI a2))] []
  refine x_iload_n (q := 1) (i := 3) C dX9_weighPair_0 rfl 3 rfl rfl ?_
  refine x_iconst (q := 2) (z := 1) C dX9_weighPair_1 rfl rfl ?_
  obtain ⟨o1, h⟩ := h
  refine x_ishr (q := 3) C dX9_weighPair_2 ⟨o1, by decide⟩ rfl ?_
  refine x_istore (q := 5) (i := 4) (lv' := [(0, .ref (ad 0)), (1, .int (iI a0)), (2, .int (iI a1)), (3, .int (iI a2)), (4, .int (iI (a2 / 2 ^ (1 : Int).toNat)))]) C dX9_weighPair_3 (Nat.le_of_ble_eq_true rfl) [1, 2, 3, 4, 0] rfl rfl ?_
  refine x_iload_n (q := 6) (i := 3) C dX9_weighPair_5 rfl 3 rfl rfl ?_
  refine x_iconst (q := 7) (z := 1) C dX9_weighPair_6 rfl rfl ?_
  refine x_iand1 (q := 8) C dX9_weighPair_7  rfl ?_
  refine x_istore (q := 10) (i := 5) (lv' := [(0, .ref (ad 0)), (1, .int (iI a0)), (2, .int (iI a1)), (3, .int (iI a2)), (4, .int (iI (a2 / 2 ^ (1 : Int).toNat))), (5, .int (iI (a2 % 2)))]) C dX9_weighPair_8 (Nat.le_of_ble_eq_true rfl) [1, 2, 3, 4, 5, 0] rfl rfl ?_
  refine x_aload_n (q := 11) (i := 0) C dX9_weighPair_10 rfl 0 rfl rfl ?_
  refine x_getR (q := 14) (c0 := 8) C (Nat.le_of_ble_eq_true rfl) ly_0 fk_RX9_32 rfl dX9_weighPair_11 rfl ?_
  refine x_aload_n (q := 15) (i := 0) C dX9_weighPair_14 rfl 0 rfl rfl ?_
  refine x_getR (q := 18) (c0 := 6) C (Nat.le_of_ble_eq_true rfl) ly_0 fk_RX9_28 rfl dX9_weighPair_15 rfl ?_
  refine x_virV (q := 21) C (Nat.le_of_ble_eq_true rfl) ly_8 rfl ck_RX9_221 vk_X2_copyFrom (m_X2_copyFrom l hI h) ⟨⟨rfl, rfl⟩, ⟨Nat.le_of_ble_eq_true rfl, Nat.le_of_ble_eq_true rfl⟩, ⟨Nat.zero_le _, Nat.zero_le _⟩⟩ dX9_weighPair_18 rfl rfl (Nat.le_of_ble_eq_true rfl) rfl (fun σ2 h => ?_)
  refine x_iload (q := 23) C dX9_weighPair_21 4 rfl rfl ?_
  refine x_iconst (q := 24) (z := 1) C dX9_weighPair_23 rfl rfl ?_
  obtain ⟨o3, h⟩ := h
  refine x_icmp_ne (q := 27) (tgt := 36) C dX9_weighPair_24 rfl ⟨o3, by decide⟩ rfl (fun c4 => ?_) (fun c4 => ?_)
  · have h := h.1 c4
    refine x_iload (q := 38) C dX9_weighPair_36 5 rfl rfl ?_
    refine x_iconst (q := 39) (z := 1) C dX9_weighPair_38 rfl rfl ?_
    obtain ⟨o5, h⟩ := h
    refine x_icmp_ne (q := 42) (tgt := 51) C dX9_weighPair_39 rfl ⟨o5, by decide⟩ rfl (fun c6 => ?_) (fun c6 => ?_)
    · have h := h.1 c6
      refine x_aload_n (q := 52) (i := 0) C dX9_weighPair_51 rfl 0 rfl rfl ?_
      refine x_getR (q := 55) (c0 := 10) C (Nat.le_of_ble_eq_true rfl) ly_0 fk_RX9_38 rfl dX9_weighPair_52 rfl ?_
      refine x_aload_n (q := 56) (i := 0) C dX9_weighPair_55 rfl 0 rfl rfl ?_
      refine x_getR (q := 59) (c0 := 8) C (Nat.le_of_ble_eq_true rfl) ly_0 fk_RX9_32 rfl dX9_weighPair_56 rfl ?_
      refine x_iconst (q := 60) (z := 0) C dX9_weighPair_59 rfl rfl ?_
      refine x_virV (q := 63) C (Nat.le_of_ble_eq_true rfl) ly_10 rfl ck_RX9_138 vk_X6_layAll (m_X6_layAll l hI h) ⟨⟨rfl, rfl⟩, ⟨Nat.le_of_ble_eq_true rfl, Nat.le_of_ble_eq_true rfl⟩, ⟨Nat.zero_le _, Nat.zero_le _⟩⟩ dX9_weighPair_60 rfl rfl (Nat.le_of_ble_eq_true rfl) rfl (fun σ7 h => ?_)
      refine x_aload_n (q := 64) (i := 0) C dX9_weighPair_63 rfl 0 rfl rfl ?_
      refine x_getR (q := 67) (c0 := 48) C (Nat.le_of_ble_eq_true rfl) ly_0 fk_RX9_79 rfl dX9_weighPair_64 rfl ?_
      refine x_iload_n (q := 68) (i := 3) C dX9_weighPair_67 rfl 3 rfl rfl ?_
      refine x_iconst (q := 69) (z := 2) C dX9_weighPair_68 rfl rfl ?_
      refine x_aload_n (q := 70) (i := 0) C dX9_weighPair_69 rfl 0 rfl rfl ?_
      refine x_getR (q := 73) (c0 := 10) C (Nat.le_of_ble_eq_true rfl) ly_0 fk_RX9_38 rfl dX9_weighPair_70 rfl ?_
      refine x_iload_n (q := 74) (i := 1) C dX9_weighPair_73 rfl 1 rfl rfl ?_
      refine x_virI (q := 77) C (Nat.le_of_ble_eq_true rfl) ly_10 rfl ck_RX9_142 vk_X6_cellsSeen (m_X6_cellsSeen l hI h) ⟨⟨rfl, rfl⟩, ⟨Nat.le_of_ble_eq_true rfl, Nat.le_of_ble_eq_true rfl⟩, ⟨Nat.zero_le _, Nat.zero_le _⟩⟩ dX9_weighPair_74 rfl rfl (Nat.le_of_ble_eq_true rfl) rfl (fun z8 σ8 h => ?_)
      rw [h.1]
      have h := h.2
      refine x_imul (q := 78) C dX9_weighPair_77  rfl ?_
      refine x_aload_n (q := 79) (i := 0) C dX9_weighPair_78 rfl 0 rfl rfl ?_
      refine x_getR (q := 82) (c0 := 10) C (Nat.le_of_ble_eq_true rfl) ly_0 fk_RX9_38 rfl dX9_weighPair_79 rfl ?_
      refine x_iload_n (q := 83) (i := 2) C dX9_weighPair_82 rfl 2 rfl rfl ?_
      refine x_iconst (q := 84) (z := 1) C dX9_weighPair_83 rfl rfl ?_
      refine x_iadd (q := 85) C dX9_weighPair_84  rfl ?_
      refine x_virI (q := 88) C (Nat.le_of_ble_eq_true rfl) ly_10 rfl ck_RX9_142 vk_X6_cellsSeen (m_X6_cellsSeen l hI h) ⟨⟨rfl, rfl⟩, ⟨Nat.le_of_ble_eq_true rfl, Nat.le_of_ble_eq_true rfl⟩, ⟨Nat.zero_le _, Nat.zero_le _⟩⟩ dX9_weighPair_85 rfl rfl (Nat.le_of_ble_eq_true rfl) rfl (fun z9 σ9 h => ?_)
      rw [h.1]
      have h := h.2
      refine x_isub (q := 89) C dX9_weighPair_88  rfl ?_
      refine x_iload (q := 91) C dX9_weighPair_89 4 rfl rfl ?_
      refine x_isub (q := 92) C dX9_weighPair_91  rfl ?_
      obtain ⟨o10, h⟩ := h
      refine x_iast (q := 93) C (Nat.le_of_ble_eq_true rfl) ly_48 dX9_weighPair_92 (ix o10 rfl) (Nat.le_of_ble_eq_true rfl)  rfl ?_
      refine x_aload_n (q := 94) (i := 0) C dX9_weighPair_93 rfl 0 rfl rfl ?_
      refine x_getR (q := 97) (c0 := 49) C (Nat.le_of_ble_eq_true rfl) ly_0 fk_RX9_83 rfl dX9_weighPair_94 rfl ?_
      refine x_iload_n (q := 98) (i := 3) C dX9_weighPair_97 rfl 3 rfl rfl ?_
      refine x_iconst (q := 99) (z := 2) C dX9_weighPair_98 rfl rfl ?_
      refine x_aload_n (q := 100) (i := 0) C dX9_weighPair_99 rfl 0 rfl rfl ?_
      refine x_getR (q := 103) (c0 := 10) C (Nat.le_of_ble_eq_true rfl) ly_0 fk_RX9_38 rfl dX9_weighPair_100 rfl ?_
      refine x_iload_n (q := 104) (i := 2) C dX9_weighPair_103 rfl 2 rfl rfl ?_
      refine x_virI (q := 107) C (Nat.le_of_ble_eq_true rfl) ly_10 rfl ck_RX9_142 vk_X6_cellsSeen (m_X6_cellsSeen l hI h) ⟨⟨rfl, rfl⟩, ⟨Nat.le_of_ble_eq_true rfl, Nat.le_of_ble_eq_true rfl⟩, ⟨Nat.zero_le _, Nat.zero_le _⟩⟩ dX9_weighPair_104 rfl rfl (Nat.le_of_ble_eq_true rfl) rfl (fun z11 σ11 h => ?_)
      rw [h.1]
      have h := h.2
      refine x_imul (q := 108) C dX9_weighPair_107  rfl ?_
      refine x_aload_n (q := 109) (i := 0) C dX9_weighPair_108 rfl 0 rfl rfl ?_
      refine x_getR (q := 112) (c0 := 10) C (Nat.le_of_ble_eq_true rfl) ly_0 fk_RX9_38 rfl dX9_weighPair_109 rfl ?_
      refine x_iload_n (q := 113) (i := 1) C dX9_weighPair_112 rfl 1 rfl rfl ?_
      refine x_iconst (q := 114) (z := 1) C dX9_weighPair_113 rfl rfl ?_
      refine x_iadd (q := 115) C dX9_weighPair_114  rfl ?_
      refine x_virI (q := 118) C (Nat.le_of_ble_eq_true rfl) ly_10 rfl ck_RX9_142 vk_X6_cellsSeen (m_X6_cellsSeen l hI h) ⟨⟨rfl, rfl⟩, ⟨Nat.le_of_ble_eq_true rfl, Nat.le_of_ble_eq_true rfl⟩, ⟨Nat.zero_le _, Nat.zero_le _⟩⟩ dX9_weighPair_115 rfl rfl (Nat.le_of_ble_eq_true rfl) rfl (fun z12 σ12 h => ?_)
      rw [h.1]
      have h := h.2
      refine x_isub (q := 119) C dX9_weighPair_118  rfl ?_
      refine x_iload (q := 121) C dX9_weighPair_119 5 rfl rfl ?_
      refine x_isub (q := 122) C dX9_weighPair_121  rfl ?_
      refine x_iast (q := 123) C (Nat.le_of_ble_eq_true rfl) ly_49 dX9_weighPair_122 (ix o10 rfl) (Nat.le_of_ble_eq_true rfl)  rfl ?_
      exact x_vret C dX9_weighPair_123 h
    · have h := h.2 c6
      refine x_aload_n (q := 43) (i := 0) C dX9_weighPair_42 rfl 0 rfl rfl ?_
      refine x_getR (q := 46) (c0 := 8) C (Nat.le_of_ble_eq_true rfl) ly_0 fk_RX9_32 rfl dX9_weighPair_43 rfl ?_
      refine x_iload_n (q := 47) (i := 2) C dX9_weighPair_46 rfl 2 rfl rfl ?_
      refine x_virI (q := 50) C (Nat.le_of_ble_eq_true rfl) ly_8 rfl ck_RX9_170 vk_X2_widen (m_X2_widen l hI h) ⟨⟨rfl, rfl⟩, ⟨Nat.le_of_ble_eq_true rfl, Nat.le_of_ble_eq_true rfl⟩, ⟨Nat.zero_le _, Nat.zero_le _⟩⟩ dX9_weighPair_47 rfl rfl (Nat.le_of_ble_eq_true rfl) rfl (fun z13 σ13 h => ?_)
      refine x_pop (q := 51) C dX9_weighPair_50 rfl rfl ?_
      refine x_aload_n (q := 52) (i := 0) C dX9_weighPair_51 rfl 0 rfl rfl ?_
      refine x_getR (q := 55) (c0 := 10) C (Nat.le_of_ble_eq_true rfl) ly_0 fk_RX9_38 rfl dX9_weighPair_52 rfl ?_
      refine x_aload_n (q := 56) (i := 0) C dX9_weighPair_55 rfl 0 rfl rfl ?_
      refine x_getR (q := 59) (c0 := 8) C (Nat.le_of_ble_eq_true rfl) ly_0 fk_RX9_32 rfl dX9_weighPair_56 rfl ?_
      refine x_iconst (q := 60) (z := 0) C dX9_weighPair_59 rfl rfl ?_
      refine x_virV (q := 63) C (Nat.le_of_ble_eq_true rfl) ly_10 rfl ck_RX9_138 vk_X6_layAll (m_X6_layAll l hI h) ⟨⟨rfl, rfl⟩, ⟨Nat.le_of_ble_eq_true rfl, Nat.le_of_ble_eq_true rfl⟩, ⟨Nat.zero_le _, Nat.zero_le _⟩⟩ dX9_weighPair_60 rfl rfl (Nat.le_of_ble_eq_true rfl) rfl (fun σ14 h => ?_)
      refine x_aload_n (q := 64) (i := 0) C dX9_weighPair_63 rfl 0 rfl rfl ?_
      refine x_getR (q := 67) (c0 := 48) C (Nat.le_of_ble_eq_true rfl) ly_0 fk_RX9_79 rfl dX9_weighPair_64 rfl ?_
      refine x_iload_n (q := 68) (i := 3) C dX9_weighPair_67 rfl 3 rfl rfl ?_
      refine x_iconst (q := 69) (z := 2) C dX9_weighPair_68 rfl rfl ?_
      refine x_aload_n (q := 70) (i := 0) C dX9_weighPair_69 rfl 0 rfl rfl ?_
      refine x_getR (q := 73) (c0 := 10) C (Nat.le_of_ble_eq_true rfl) ly_0 fk_RX9_38 rfl dX9_weighPair_70 rfl ?_
      refine x_iload_n (q := 74) (i := 1) C dX9_weighPair_73 rfl 1 rfl rfl ?_
      refine x_virI (q := 77) C (Nat.le_of_ble_eq_true rfl) ly_10 rfl ck_RX9_142 vk_X6_cellsSeen (m_X6_cellsSeen l hI h) ⟨⟨rfl, rfl⟩, ⟨Nat.le_of_ble_eq_true rfl, Nat.le_of_ble_eq_true rfl⟩, ⟨Nat.zero_le _, Nat.zero_le _⟩⟩ dX9_weighPair_74 rfl rfl (Nat.le_of_ble_eq_true rfl) rfl (fun z15 σ15 h => ?_)
      rw [h.1]
      have h := h.2
      refine x_imul (q := 78) C dX9_weighPair_77  rfl ?_
      refine x_aload_n (q := 79) (i := 0) C dX9_weighPair_78 rfl 0 rfl rfl ?_
      refine x_getR (q := 82) (c0 := 10) C (Nat.le_of_ble_eq_true rfl) ly_0 fk_RX9_38 rfl dX9_weighPair_79 rfl ?_
      refine x_iload_n (q := 83) (i := 2) C dX9_weighPair_82 rfl 2 rfl rfl ?_
      refine x_iconst (q := 84) (z := 1) C dX9_weighPair_83 rfl rfl ?_
      refine x_iadd (q := 85) C dX9_weighPair_84  rfl ?_
      refine x_virI (q := 88) C (Nat.le_of_ble_eq_true rfl) ly_10 rfl ck_RX9_142 vk_X6_cellsSeen (m_X6_cellsSeen l hI h) ⟨⟨rfl, rfl⟩, ⟨Nat.le_of_ble_eq_true rfl, Nat.le_of_ble_eq_true rfl⟩, ⟨Nat.zero_le _, Nat.zero_le _⟩⟩ dX9_weighPair_85 rfl rfl (Nat.le_of_ble_eq_true rfl) rfl (fun z16 σ16 h => ?_)
      rw [h.1]
      have h := h.2
      refine x_isub (q := 89) C dX9_weighPair_88  rfl ?_
      refine x_iload (q := 91) C dX9_weighPair_89 4 rfl rfl ?_
      refine x_isub (q := 92) C dX9_weighPair_91  rfl ?_
      obtain ⟨o17, h⟩ := h
      refine x_iast (q := 93) C (Nat.le_of_ble_eq_true rfl) ly_48 dX9_weighPair_92 (ix o17 rfl) (Nat.le_of_ble_eq_true rfl)  rfl ?_
      refine x_aload_n (q := 94) (i := 0) C dX9_weighPair_93 rfl 0 rfl rfl ?_
      refine x_getR (q := 97) (c0 := 49) C (Nat.le_of_ble_eq_true rfl) ly_0 fk_RX9_83 rfl dX9_weighPair_94 rfl ?_
      refine x_iload_n (q := 98) (i := 3) C dX9_weighPair_97 rfl 3 rfl rfl ?_
      refine x_iconst (q := 99) (z := 2) C dX9_weighPair_98 rfl rfl ?_
      refine x_aload_n (q := 100) (i := 0) C dX9_weighPair_99 rfl 0 rfl rfl ?_
      refine x_getR (q := 103) (c0 := 10) C (Nat.le_of_ble_eq_true rfl) ly_0 fk_RX9_38 rfl dX9_weighPair_100 rfl ?_
      refine x_iload_n (q := 104) (i := 2) C dX9_weighPair_103 rfl 2 rfl rfl ?_
      refine x_virI (q := 107) C (Nat.le_of_ble_eq_true rfl) ly_10 rfl ck_RX9_142 vk_X6_cellsSeen (m_X6_cellsSeen l hI h) ⟨⟨rfl, rfl⟩, ⟨Nat.le_of_ble_eq_true rfl, Nat.le_of_ble_eq_true rfl⟩, ⟨Nat.zero_le _, Nat.zero_le _⟩⟩ dX9_weighPair_104 rfl rfl (Nat.le_of_ble_eq_true rfl) rfl (fun z18 σ18 h => ?_)
      rw [h.1]
      have h := h.2
      refine x_imul (q := 108) C dX9_weighPair_107  rfl ?_
      refine x_aload_n (q := 109) (i := 0) C dX9_weighPair_108 rfl 0 rfl rfl ?_
      refine x_getR (q := 112) (c0 := 10) C (Nat.le_of_ble_eq_true rfl) ly_0 fk_RX9_38 rfl dX9_weighPair_109 rfl ?_
      refine x_iload_n (q := 113) (i := 1) C dX9_weighPair_112 rfl 1 rfl rfl ?_
      refine x_iconst (q := 114) (z := 1) C dX9_weighPair_113 rfl rfl ?_
      refine x_iadd (q := 115) C dX9_weighPair_114  rfl ?_
      refine x_virI (q := 118) C (Nat.le_of_ble_eq_true rfl) ly_10 rfl ck_RX9_142 vk_X6_cellsSeen (m_X6_cellsSeen l hI h) ⟨⟨rfl, rfl⟩, ⟨Nat.le_of_ble_eq_true rfl, Nat.le_of_ble_eq_true rfl⟩, ⟨Nat.zero_le _, Nat.zero_le _⟩⟩ dX9_weighPair_115 rfl rfl (Nat.le_of_ble_eq_true rfl) rfl (fun z19 σ19 h => ?_)
      rw [h.1]
      have h := h.2
      refine x_isub (q := 119) C dX9_weighPair_118  rfl ?_
      refine x_iload (q := 121) C dX9_weighPair_119 5 rfl rfl ?_
      refine x_isub (q := 122) C dX9_weighPair_121  rfl ?_
      refine x_iast (q := 123) C (Nat.le_of_ble_eq_true rfl) ly_49 dX9_weighPair_122 (ix o17 rfl) (Nat.le_of_ble_eq_true rfl)  rfl ?_
      exact x_vret C dX9_weighPair_123 h
  · have h := h.2 c4
    refine x_aload_n (q := 28) (i := 0) C dX9_weighPair_27 rfl 0 rfl rfl ?_
    refine x_getR (q := 31) (c0 := 8) C (Nat.le_of_ble_eq_true rfl) ly_0 fk_RX9_32 rfl dX9_weighPair_28 rfl ?_
    refine x_iload_n (q := 32) (i := 1) C dX9_weighPair_31 rfl 1 rfl rfl ?_
    refine x_virI (q := 35) C (Nat.le_of_ble_eq_true rfl) ly_8 rfl ck_RX9_170 vk_X2_widen (m_X2_widen l hI h) ⟨⟨rfl, rfl⟩, ⟨Nat.le_of_ble_eq_true rfl, Nat.le_of_ble_eq_true rfl⟩, ⟨Nat.zero_le _, Nat.zero_le _⟩⟩ dX9_weighPair_32 rfl rfl (Nat.le_of_ble_eq_true rfl) rfl (fun z20 σ20 h => ?_)
    refine x_pop (q := 36) C dX9_weighPair_35 rfl rfl ?_
    refine x_iload (q := 38) C dX9_weighPair_36 5 rfl rfl ?_
    refine x_iconst (q := 39) (z := 1) C dX9_weighPair_38 rfl rfl ?_
    obtain ⟨o21, h⟩ := h
    refine x_icmp_ne (q := 42) (tgt := 51) C dX9_weighPair_39 rfl ⟨o21, by decide⟩ rfl (fun c22 => ?_) (fun c22 => ?_)
    · have h := h.1 c22
      refine x_aload_n (q := 52) (i := 0) C dX9_weighPair_51 rfl 0 rfl rfl ?_
      refine x_getR (q := 55) (c0 := 10) C (Nat.le_of_ble_eq_true rfl) ly_0 fk_RX9_38 rfl dX9_weighPair_52 rfl ?_
      refine x_aload_n (q := 56) (i := 0) C dX9_weighPair_55 rfl 0 rfl rfl ?_
      refine x_getR (q := 59) (c0 := 8) C (Nat.le_of_ble_eq_true rfl) ly_0 fk_RX9_32 rfl dX9_weighPair_56 rfl ?_
      refine x_iconst (q := 60) (z := 0) C dX9_weighPair_59 rfl rfl ?_
      refine x_virV (q := 63) C (Nat.le_of_ble_eq_true rfl) ly_10 rfl ck_RX9_138 vk_X6_layAll (m_X6_layAll l hI h) ⟨⟨rfl, rfl⟩, ⟨Nat.le_of_ble_eq_true rfl, Nat.le_of_ble_eq_true rfl⟩, ⟨Nat.zero_le _, Nat.zero_le _⟩⟩ dX9_weighPair_60 rfl rfl (Nat.le_of_ble_eq_true rfl) rfl (fun σ23 h => ?_)
      refine x_aload_n (q := 64) (i := 0) C dX9_weighPair_63 rfl 0 rfl rfl ?_
      refine x_getR (q := 67) (c0 := 48) C (Nat.le_of_ble_eq_true rfl) ly_0 fk_RX9_79 rfl dX9_weighPair_64 rfl ?_
      refine x_iload_n (q := 68) (i := 3) C dX9_weighPair_67 rfl 3 rfl rfl ?_
      refine x_iconst (q := 69) (z := 2) C dX9_weighPair_68 rfl rfl ?_
      refine x_aload_n (q := 70) (i := 0) C dX9_weighPair_69 rfl 0 rfl rfl ?_
      refine x_getR (q := 73) (c0 := 10) C (Nat.le_of_ble_eq_true rfl) ly_0 fk_RX9_38 rfl dX9_weighPair_70 rfl ?_
      refine x_iload_n (q := 74) (i := 1) C dX9_weighPair_73 rfl 1 rfl rfl ?_
      refine x_virI (q := 77) C (Nat.le_of_ble_eq_true rfl) ly_10 rfl ck_RX9_142 vk_X6_cellsSeen (m_X6_cellsSeen l hI h) ⟨⟨rfl, rfl⟩, ⟨Nat.le_of_ble_eq_true rfl, Nat.le_of_ble_eq_true rfl⟩, ⟨Nat.zero_le _, Nat.zero_le _⟩⟩ dX9_weighPair_74 rfl rfl (Nat.le_of_ble_eq_true rfl) rfl (fun z24 σ24 h => ?_)
      rw [h.1]
      have h := h.2
      refine x_imul (q := 78) C dX9_weighPair_77  rfl ?_
      refine x_aload_n (q := 79) (i := 0) C dX9_weighPair_78 rfl 0 rfl rfl ?_
      refine x_getR (q := 82) (c0 := 10) C (Nat.le_of_ble_eq_true rfl) ly_0 fk_RX9_38 rfl dX9_weighPair_79 rfl ?_
      refine x_iload_n (q := 83) (i := 2) C dX9_weighPair_82 rfl 2 rfl rfl ?_
      refine x_iconst (q := 84) (z := 1) C dX9_weighPair_83 rfl rfl ?_
      refine x_iadd (q := 85) C dX9_weighPair_84  rfl ?_
      refine x_virI (q := 88) C (Nat.le_of_ble_eq_true rfl) ly_10 rfl ck_RX9_142 vk_X6_cellsSeen (m_X6_cellsSeen l hI h) ⟨⟨rfl, rfl⟩, ⟨Nat.le_of_ble_eq_true rfl, Nat.le_of_ble_eq_true rfl⟩, ⟨Nat.zero_le _, Nat.zero_le _⟩⟩ dX9_weighPair_85 rfl rfl (Nat.le_of_ble_eq_true rfl) rfl (fun z25 σ25 h => ?_)
      rw [h.1]
      have h := h.2
      refine x_isub (q := 89) C dX9_weighPair_88  rfl ?_
      refine x_iload (q := 91) C dX9_weighPair_89 4 rfl rfl ?_
      refine x_isub (q := 92) C dX9_weighPair_91  rfl ?_
      obtain ⟨o26, h⟩ := h
      refine x_iast (q := 93) C (Nat.le_of_ble_eq_true rfl) ly_48 dX9_weighPair_92 (ix o26 rfl) (Nat.le_of_ble_eq_true rfl)  rfl ?_
      refine x_aload_n (q := 94) (i := 0) C dX9_weighPair_93 rfl 0 rfl rfl ?_
      refine x_getR (q := 97) (c0 := 49) C (Nat.le_of_ble_eq_true rfl) ly_0 fk_RX9_83 rfl dX9_weighPair_94 rfl ?_
      refine x_iload_n (q := 98) (i := 3) C dX9_weighPair_97 rfl 3 rfl rfl ?_
      refine x_iconst (q := 99) (z := 2) C dX9_weighPair_98 rfl rfl ?_
      refine x_aload_n (q := 100) (i := 0) C dX9_weighPair_99 rfl 0 rfl rfl ?_
      refine x_getR (q := 103) (c0 := 10) C (Nat.le_of_ble_eq_true rfl) ly_0 fk_RX9_38 rfl dX9_weighPair_100 rfl ?_
      refine x_iload_n (q := 104) (i := 2) C dX9_weighPair_103 rfl 2 rfl rfl ?_
      refine x_virI (q := 107) C (Nat.le_of_ble_eq_true rfl) ly_10 rfl ck_RX9_142 vk_X6_cellsSeen (m_X6_cellsSeen l hI h) ⟨⟨rfl, rfl⟩, ⟨Nat.le_of_ble_eq_true rfl, Nat.le_of_ble_eq_true rfl⟩, ⟨Nat.zero_le _, Nat.zero_le _⟩⟩ dX9_weighPair_104 rfl rfl (Nat.le_of_ble_eq_true rfl) rfl (fun z27 σ27 h => ?_)
      rw [h.1]
      have h := h.2
      refine x_imul (q := 108) C dX9_weighPair_107  rfl ?_
      refine x_aload_n (q := 109) (i := 0) C dX9_weighPair_108 rfl 0 rfl rfl ?_
      refine x_getR (q := 112) (c0 := 10) C (Nat.le_of_ble_eq_true rfl) ly_0 fk_RX9_38 rfl dX9_weighPair_109 rfl ?_
      refine x_iload_n (q := 113) (i := 1) C dX9_weighPair_112 rfl 1 rfl rfl ?_
      refine x_iconst (q := 114) (z := 1) C dX9_weighPair_113 rfl rfl ?_
      refine x_iadd (q := 115) C dX9_weighPair_114  rfl ?_
      refine x_virI (q := 118) C (Nat.le_of_ble_eq_true rfl) ly_10 rfl ck_RX9_142 vk_X6_cellsSeen (m_X6_cellsSeen l hI h) ⟨⟨rfl, rfl⟩, ⟨Nat.le_of_ble_eq_true rfl, Nat.le_of_ble_eq_true rfl⟩, ⟨Nat.zero_le _, Nat.zero_le _⟩⟩ dX9_weighPair_115 rfl rfl (Nat.le_of_ble_eq_true rfl) rfl (fun z28 σ28 h => ?_)
      rw [h.1]
      have h := h.2
      refine x_isub (q := 119) C dX9_weighPair_118  rfl ?_
      refine x_iload (q := 121) C dX9_weighPair_119 5 rfl rfl ?_
      refine x_isub (q := 122) C dX9_weighPair_121  rfl ?_
      refine x_iast (q := 123) C (Nat.le_of_ble_eq_true rfl) ly_49 dX9_weighPair_122 (ix o26 rfl) (Nat.le_of_ble_eq_true rfl)  rfl ?_
      exact x_vret C dX9_weighPair_123 h
    · have h := h.2 c22
      refine x_aload_n (q := 43) (i := 0) C dX9_weighPair_42 rfl 0 rfl rfl ?_
      refine x_getR (q := 46) (c0 := 8) C (Nat.le_of_ble_eq_true rfl) ly_0 fk_RX9_32 rfl dX9_weighPair_43 rfl ?_
      refine x_iload_n (q := 47) (i := 2) C dX9_weighPair_46 rfl 2 rfl rfl ?_
      refine x_virI (q := 50) C (Nat.le_of_ble_eq_true rfl) ly_8 rfl ck_RX9_170 vk_X2_widen (m_X2_widen l hI h) ⟨⟨rfl, rfl⟩, ⟨Nat.le_of_ble_eq_true rfl, Nat.le_of_ble_eq_true rfl⟩, ⟨Nat.zero_le _, Nat.zero_le _⟩⟩ dX9_weighPair_47 rfl rfl (Nat.le_of_ble_eq_true rfl) rfl (fun z29 σ29 h => ?_)
      refine x_pop (q := 51) C dX9_weighPair_50 rfl rfl ?_
      refine x_aload_n (q := 52) (i := 0) C dX9_weighPair_51 rfl 0 rfl rfl ?_
      refine x_getR (q := 55) (c0 := 10) C (Nat.le_of_ble_eq_true rfl) ly_0 fk_RX9_38 rfl dX9_weighPair_52 rfl ?_
      refine x_aload_n (q := 56) (i := 0) C dX9_weighPair_55 rfl 0 rfl rfl ?_
      refine x_getR (q := 59) (c0 := 8) C (Nat.le_of_ble_eq_true rfl) ly_0 fk_RX9_32 rfl dX9_weighPair_56 rfl ?_
      refine x_iconst (q := 60) (z := 0) C dX9_weighPair_59 rfl rfl ?_
      refine x_virV (q := 63) C (Nat.le_of_ble_eq_true rfl) ly_10 rfl ck_RX9_138 vk_X6_layAll (m_X6_layAll l hI h) ⟨⟨rfl, rfl⟩, ⟨Nat.le_of_ble_eq_true rfl, Nat.le_of_ble_eq_true rfl⟩, ⟨Nat.zero_le _, Nat.zero_le _⟩⟩ dX9_weighPair_60 rfl rfl (Nat.le_of_ble_eq_true rfl) rfl (fun σ30 h => ?_)
      refine x_aload_n (q := 64) (i := 0) C dX9_weighPair_63 rfl 0 rfl rfl ?_
      refine x_getR (q := 67) (c0 := 48) C (Nat.le_of_ble_eq_true rfl) ly_0 fk_RX9_79 rfl dX9_weighPair_64 rfl ?_
      refine x_iload_n (q := 68) (i := 3) C dX9_weighPair_67 rfl 3 rfl rfl ?_
      refine x_iconst (q := 69) (z := 2) C dX9_weighPair_68 rfl rfl ?_
      refine x_aload_n (q := 70) (i := 0) C dX9_weighPair_69 rfl 0 rfl rfl ?_
      refine x_getR (q := 73) (c0 := 10) C (Nat.le_of_ble_eq_true rfl) ly_0 fk_RX9_38 rfl dX9_weighPair_70 rfl ?_
      refine x_iload_n (q := 74) (i := 1) C dX9_weighPair_73 rfl 1 rfl rfl ?_
      refine x_virI (q := 77) C (Nat.le_of_ble_eq_true rfl) ly_10 rfl ck_RX9_142 vk_X6_cellsSeen (m_X6_cellsSeen l hI h) ⟨⟨rfl, rfl⟩, ⟨Nat.le_of_ble_eq_true rfl, Nat.le_of_ble_eq_true rfl⟩, ⟨Nat.zero_le _, Nat.zero_le _⟩⟩ dX9_weighPair_74 rfl rfl (Nat.le_of_ble_eq_true rfl) rfl (fun z31 σ31 h => ?_)
      rw [h.1]
      have h := h.2
      refine x_imul (q := 78) C dX9_weighPair_77  rfl ?_
      refine x_aload_n (q := 79) (i := 0) C dX9_weighPair_78 rfl 0 rfl rfl ?_
      refine x_getR (q := 82) (c0 := 10) C (Nat.le_of_ble_eq_true rfl) ly_0 fk_RX9_38 rfl dX9_weighPair_79 rfl ?_
      refine x_iload_n (q := 83) (i := 2) C dX9_weighPair_82 rfl 2 rfl rfl ?_
      refine x_iconst (q := 84) (z := 1) C dX9_weighPair_83 rfl rfl ?_
      refine x_iadd (q := 85) C dX9_weighPair_84  rfl ?_
      refine x_virI (q := 88) C (Nat.le_of_ble_eq_true rfl) ly_10 rfl ck_RX9_142 vk_X6_cellsSeen (m_X6_cellsSeen l hI h) ⟨⟨rfl, rfl⟩, ⟨Nat.le_of_ble_eq_true rfl, Nat.le_of_ble_eq_true rfl⟩, ⟨Nat.zero_le _, Nat.zero_le _⟩⟩ dX9_weighPair_85 rfl rfl (Nat.le_of_ble_eq_true rfl) rfl (fun z32 σ32 h => ?_)
      rw [h.1]
      have h := h.2
      refine x_isub (q := 89) C dX9_weighPair_88  rfl ?_
      refine x_iload (q := 91) C dX9_weighPair_89 4 rfl rfl ?_
      refine x_isub (q := 92) C dX9_weighPair_91  rfl ?_
      obtain ⟨o33, h⟩ := h
      refine x_iast (q := 93) C (Nat.le_of_ble_eq_true rfl) ly_48 dX9_weighPair_92 (ix o33 rfl) (Nat.le_of_ble_eq_true rfl)  rfl ?_
      refine x_aload_n (q := 94) (i := 0) C dX9_weighPair_93 rfl 0 rfl rfl ?_
      refine x_getR (q := 97) (c0 := 49) C (Nat.le_of_ble_eq_true rfl) ly_0 fk_RX9_83 rfl dX9_weighPair_94 rfl ?_
      refine x_iload_n (q := 98) (i := 3) C dX9_weighPair_97 rfl 3 rfl rfl ?_
      refine x_iconst (q := 99) (z := 2) C dX9_weighPair_98 rfl rfl ?_
      refine x_aload_n (q := 100) (i := 0) C dX9_weighPair_99 rfl 0 rfl rfl ?_
      refine x_getR (q := 103) (c0 := 10) C (Nat.le_of_ble_eq_true rfl) ly_0 fk_RX9_38 rfl dX9_weighPair_100 rfl ?_
      refine x_iload_n (q := 104) (i := 2) C dX9_weighPair_103 rfl 2 rfl rfl ?_
      refine x_virI (q := 107) C (Nat.le_of_ble_eq_true rfl) ly_10 rfl ck_RX9_142 vk_X6_cellsSeen (m_X6_cellsSeen l hI h) ⟨⟨rfl, rfl⟩, ⟨Nat.le_of_ble_eq_true rfl, Nat.le_of_ble_eq_true rfl⟩, ⟨Nat.zero_le _, Nat.zero_le _⟩⟩ dX9_weighPair_104 rfl rfl (Nat.le_of_ble_eq_true rfl) rfl (fun z34 σ34 h => ?_)
      rw [h.1]
      have h := h.2
      refine x_imul (q := 108) C dX9_weighPair_107  rfl ?_
      refine x_aload_n (q := 109) (i := 0) C dX9_weighPair_108 rfl 0 rfl rfl ?_
      refine x_getR (q := 112) (c0 := 10) C (Nat.le_of_ble_eq_true rfl) ly_0 fk_RX9_38 rfl dX9_weighPair_109 rfl ?_
      refine x_iload_n (q := 113) (i := 1) C dX9_weighPair_112 rfl 1 rfl rfl ?_
      refine x_iconst (q := 114) (z := 1) C dX9_weighPair_113 rfl rfl ?_
      refine x_iadd (q := 115) C dX9_weighPair_114  rfl ?_
      refine x_virI (q := 118) C (Nat.le_of_ble_eq_true rfl) ly_10 rfl ck_RX9_142 vk_X6_cellsSeen (m_X6_cellsSeen l hI h) ⟨⟨rfl, rfl⟩, ⟨Nat.le_of_ble_eq_true rfl, Nat.le_of_ble_eq_true rfl⟩, ⟨Nat.zero_le _, Nat.zero_le _⟩⟩ dX9_weighPair_115 rfl rfl (Nat.le_of_ble_eq_true rfl) rfl (fun z35 σ35 h => ?_)
      rw [h.1]
      have h := h.2
      refine x_isub (q := 119) C dX9_weighPair_118  rfl ?_
      refine x_iload (q := 121) C dX9_weighPair_119 5 rfl rfl ?_
      refine x_isub (q := 122) C dX9_weighPair_121  rfl ?_
      refine x_iast (q := 123) C (Nat.le_of_ble_eq_true rfl) ly_49 dX9_weighPair_122 (ix o33 rfl) (Nat.le_of_ble_eq_true rfl)  rfl ?_
      exact x_vret C dX9_weighPair_123 h
abbrev rm_X9_rests : Room := { frames := 5, cells := 0, slots := 0, locals := 118 }
def vc_X9_rests (σ : GS) (a0 : Int) (a1 : Int) (a2 : Int) (Post : Int → GS → Prop) : Prop :=
  vc_X1_hasGap σ a0 (fun (z1 : Int) =>
    (rg z1) ∧
  ((z1 = 0 →
    (Post (-1) σ)) ∧
  (¬ z1 = 0 →
    (vc_X1_hasGap σ a1 (fun (z4 : Int) =>
      (rg z4) ∧
    ((¬ z4 = 0 →
      ((rg a0) ∧
      ((rg a1) ∧
      ((a0 = a1 →
        (Post (-2) σ)) ∧
      (¬ a0 = a1 →
        (vc_X9_isBit σ a2 (fun (z10 : Int) =>
          (rg z10) ∧
        ((¬ z10 = 0 →
          (∃ I13 : Nat → Int → GS → Prop, (∃ n : Nat, I13 n 0 σ) ∧ ∀ (n13 : Nat) (v4_13 : Int) (σ13 : GS), I13 n13 v4_13 σ13 →
          ((rg v4_13) ∧
              (((4 : Int) ≤ v4_13 →
                (∃ I16 : Nat → Int → Int → Int → Prop, (∃ n : Nat, I16 n 0 (-9) 0) ∧ ∀ (n16 : Nat) (v4_16 : Int) (v5_16 : Int) (v6_16 : Int), I16 n16 v4_16 v5_16 v6_16 →
                ((rg v6_16) ∧
                    (((4 : Int) ≤ v6_16 →
                      ((rg a2) ∧
                      ((¬ a2 = 0 →
                        (Post v5_16 σ13)) ∧
                      (a2 = 0 →
                        (Post v4_16 σ13))))) ∧
                    (¬ (4 : Int) ≤ v6_16 →
                      ((0 ≤ v6_16 ∧ v6_16 < 4) ∧
                      (((0 : Int) ≤ v6_16 ∧ (0 : Int) ≤ 2) ∧
                      ((0 ≤ (bxor v6_16 2) ∧ (bxor v6_16 2) < 4) ∧
                      ((rg (σ13 48 v6_16.toNat)) ∧
                      ((rg (σ13 48 (bxor v6_16 2).toNat)) ∧
                      (((σ13 48 v6_16.toNat) < (σ13 48 (bxor v6_16 2).toNat) →
                        (∃ n' : Nat, n' < n16 ∧ I16 n' v4_16 v5_16 (v6_16 + 1))) ∧
                      (¬ (σ13 48 v6_16.toNat) < (σ13 48 (bxor v6_16 2).toNat) →
                        (((0 : Int) ≤ v6_16 ∧ (0 : Int) ≤ 1) ∧
                        ((0 ≤ (bxor v6_16 1) ∧ (bxor v6_16 1) < 4) ∧
                        ((rg (σ13 49 v6_16.toNat)) ∧
                        ((rg (σ13 49 (bxor v6_16 1).toNat)) ∧
                        (((σ13 49 v6_16.toNat) < (σ13 49 (bxor v6_16 1).toNat) →
                          (∃ n' : Nat, n' < n16 ∧ I16 n' v4_16 v5_16 (v6_16 + 1))) ∧
                        (¬ (σ13 49 v6_16.toNat) < (σ13 49 (bxor v6_16 1).toNat) →
                          ((rg v5_16) ∧
                          ((¬ v5_16 = (-9) →
                            (∃ n' : Nat, n' < n16 ∧ I16 n' (v4_16 + 1) v5_16 (v6_16 + 1))) ∧
                          (v5_16 = (-9) →
                            ((0 ≤ v6_16 ∧ v6_16 ≤ 2147483647) ∧
                            (∃ n' : Nat, n' < n16 ∧ I16 n' (v4_16 + 1) ((10 * (v6_16 / 2 ^ (1 : Int).toNat)) + (v6_16 % 2)) (v6_16 + 1)))))))))))))))))))))))) ∧
              (¬ (4 : Int) ≤ v4_13 →
                (vc_X9_weighPair σ13 a0 a1 v4_13 (fun (σ43 : GS) =>
                  ∃ n' : Nat, n' < n13 ∧ I13 n' (v4_13 + 1) σ43))))))) ∧
        (z10 = 0 →
          (Post (-2) σ)))))))))) ∧
    (z4 = 0 →
      (Post (-1) σ))))))))
set_option maxHeartbeats 4000000 in
set_option maxRecDepth 10000 in
theorem m_X9_rests (l : Launch) {ad : Nat → Nat} {D : va_G} {cI cZ cG : ClassId} (hI : Ij ad) {σ : GS} {a0 : Int} {a1 : Int} {a2 : Int} {Post : Int → GS → Prop} (h : vc_X9_rests σ a0 a1 a2 Post) : Met l yX9_rests (wX yX9_rests cX9_rests 7 (some .int)) rm_X9_rests (va_Pc [.ref (ad 0), .int (iI a0), .int (iI a1), .int (iI a2)] (Wd ad D cI cZ cG σ)) (QI ad D cI cZ cG Post) 0 0 (Aw ad) := by
  refine met_V (own := RX9) hI (by decide +kernel) rfl (Nat.le_of_ble_eq_true rfl) ?_
  intro p e s m args below meth c C
  unfold vc_X9_rests at h
  show V p l e rm_X9_rests s m args below meth c ad D cI cZ cG (Aw ad) 7 0 0 (MQ below (QI ad D cI cZ cG Post) args s 0 0 (Aw ad)) σ 0 [(0, .ref (ad 0)), (1, .int (iI a0)), (2, .int (iI a1)), (3, .int (iI a2))] []
  refine x_aload_n (q := 1) (i := 0) C dX9_rests_0 rfl 0 rfl rfl ?_
  refine x_getR (q := 4) (c0 := 3) C (Nat.le_of_ble_eq_true rfl) ly_0 fk_RX9_19 rfl dX9_rests_1 rfl ?_
  refine x_iload_n (q := 5) (i := 1) C dX9_rests_4 rfl 1 rfl rfl ?_
  refine x_virI (q := 8) C (Nat.le_of_ble_eq_true rfl) ly_3 rfl ck_RX9_145 vk_X1_hasGap (m_X1_hasGap l hI h) ⟨⟨rfl, rfl⟩, ⟨Nat.le_of_ble_eq_true rfl, Nat.le_of_ble_eq_true rfl⟩, ⟨Nat.zero_le _, Nat.zero_le _⟩⟩ dX9_rests_5 rfl rfl (Nat.le_of_ble_eq_true rfl) rfl (fun z1 σ1 h => ?_)
  rw [h.1]
  have h := h.2
  obtain ⟨o2, h⟩ := h
  refine x_if_eq (q := 11) (tgt := 22) C dX9_rests_8 rfl o2 rfl (fun c3 => ?_) (fun c3 => ?_)
  · have h := h.1 c3
    refine x_iconst (q := 23) (z := (-1)) C dX9_rests_22 rfl rfl ?_
    exact x_iret C dX9_rests_23 h
  · have h := h.2 c3
    refine x_aload_n (q := 12) (i := 0) C dX9_rests_11 rfl 0 rfl rfl ?_
    refine x_getR (q := 15) (c0 := 3) C (Nat.le_of_ble_eq_true rfl) ly_0 fk_RX9_19 rfl dX9_rests_12 rfl ?_
    refine x_iload_n (q := 16) (i := 2) C dX9_rests_15 rfl 2 rfl rfl ?_
    refine x_virI (q := 19) C (Nat.le_of_ble_eq_true rfl) ly_3 rfl ck_RX9_145 vk_X1_hasGap (m_X1_hasGap l hI h) ⟨⟨rfl, rfl⟩, ⟨Nat.le_of_ble_eq_true rfl, Nat.le_of_ble_eq_true rfl⟩, ⟨Nat.zero_le _, Nat.zero_le _⟩⟩ dX9_rests_16 rfl rfl (Nat.le_of_ble_eq_true rfl) rfl (fun z4 σ4 h => ?_)
    rw [h.1]
    have h := h.2
    obtain ⟨o5, h⟩ := h
    refine x_if_ne (q := 22) (tgt := 24) C dX9_rests_19 rfl o5 rfl (fun c6 => ?_) (fun c6 => ?_)
    · have h := h.1 c6
      refine x_iload_n (q := 25) (i := 1) C dX9_rests_24 rfl 1 rfl rfl ?_
      refine x_iload_n (q := 26) (i := 2) C dX9_rests_25 rfl 2 rfl rfl ?_
      obtain ⟨o7, h⟩ := h
      obtain ⟨o8, h⟩ := h
      refine x_icmp_eq (q := 29) (tgt := 36) C dX9_rests_26 rfl ⟨o7, o8⟩ rfl (fun c9 => ?_) (fun c9 => ?_)
      · have h := h.1 c9
        refine x_bipush (q := 38) (z := (-2)) C dX9_rests_36 rfl rfl ?_
        exact x_iret C dX9_rests_38 h
      · have h := h.2 c9
        refine x_iload_n (q := 30) (i := 3) C dX9_rests_29 rfl 3 rfl rfl ?_
        refine x_staI (q := 33) C ck_RX9_154 t2_155 (m_X9_isBit l hI h) ⟨⟨rfl, rfl⟩, ⟨Nat.le_of_ble_eq_true rfl, Nat.le_of_ble_eq_true rfl⟩, ⟨Nat.zero_le _, Nat.zero_le _⟩⟩ dX9_rests_30 rfl rfl (Nat.le_of_ble_eq_true rfl) rfl (fun z10 σ10 h => ?_)
        rw [h.1]
        have h := h.2
        obtain ⟨o11, h⟩ := h
        refine x_if_ne (q := 36) (tgt := 39) C dX9_rests_33 rfl o11 rfl (fun c12 => ?_) (fun c12 => ?_)
        · have h := h.1 c12
          refine x_iconst (q := 40) (z := 0) C dX9_rests_39 rfl rfl ?_
          refine x_istore (q := 42) (i := 4) (lv' := [(0, .ref (ad 0)), (1, .int (iI a0)), (2, .int (iI a1)), (3, .int (iI a2)), (4, .int (iI 0))]) C dX9_rests_40 (Nat.le_of_ble_eq_true rfl) [1, 2, 3, 4, 0] rfl rfl ?_
          obtain ⟨I13, ⟨n013, h013⟩, hs13⟩ := h
          have L13 : ∀ (n13 : Nat) (v4_13 : Int) (σ13 : GS), I13 n13 v4_13 σ13 → V p l e rm_X9_rests s m args below meth c ad D cI cZ cG (Aw ad) 7 0 0 (MQ below (QI ad D cI cZ cG Post) args s 0 0 (Aw ad)) σ13 42 [(0, .ref (ad 0)), (1, .int (iI a0)), (2, .int (iI a1)), (3, .int (iI a2)), (4, .int (iI v4_13))] [] := by
            intro n13
            induction n13 using Nat.strongRecOn with
            | ind n13 ih13 =>
              intro v4_13 σ13 h
              have h := hs13 n13 v4_13 σ13 h
              refine x_iload (q := 44) C dX9_rests_42 4 rfl rfl ?_
              refine x_iconst (q := 45) (z := 4) C dX9_rests_44 rfl rfl ?_
              obtain ⟨o14, h⟩ := h
              refine x_icmp_ge (q := 48) (tgt := 62) C dX9_rests_45 rfl ⟨o14, by decide⟩ rfl (fun c15 => ?_) (fun c15 => ?_)
              · have h := h.1 c15
                refine x_iconst (q := 63) (z := 0) C dX9_rests_62 rfl rfl ?_
                refine x_istore (q := 65) (i := 4) (lv' := [(0, .ref (ad 0)), (1, .int (iI a0)), (2, .int (iI a1)), (3, .int (iI a2)), (4, .int (iI 0))]) C dX9_rests_63 (Nat.le_of_ble_eq_true rfl) [1, 2, 3, 4, 0] rfl rfl ?_
                refine x_bipush (q := 67) (z := (-9)) C dX9_rests_65 rfl rfl ?_
                refine x_istore (q := 69) (i := 5) (lv' := [(0, .ref (ad 0)), (1, .int (iI a0)), (2, .int (iI a1)), (3, .int (iI a2)), (4, .int (iI 0)), (5, .int (iI (-9)))]) C dX9_rests_67 (Nat.le_of_ble_eq_true rfl) [1, 2, 3, 4, 5, 0] rfl rfl ?_
                refine x_iconst (q := 70) (z := 0) C dX9_rests_69 rfl rfl ?_
                refine x_istore (q := 72) (i := 6) (lv' := [(0, .ref (ad 0)), (1, .int (iI a0)), (2, .int (iI a1)), (3, .int (iI a2)), (4, .int (iI 0)), (5, .int (iI (-9))), (6, .int (iI 0))]) C dX9_rests_70 (Nat.le_of_ble_eq_true rfl) [1, 2, 3, 4, 5, 6, 0] rfl rfl ?_
                obtain ⟨I16, ⟨n016, h016⟩, hs16⟩ := h
                have L16 : ∀ (n16 : Nat) (v4_16 : Int) (v5_16 : Int) (v6_16 : Int), I16 n16 v4_16 v5_16 v6_16 → V p l e rm_X9_rests s m args below meth c ad D cI cZ cG (Aw ad) 7 0 0 (MQ below (QI ad D cI cZ cG Post) args s 0 0 (Aw ad)) σ13 72 [(0, .ref (ad 0)), (1, .int (iI a0)), (2, .int (iI a1)), (3, .int (iI a2)), (4, .int (iI v4_16)), (5, .int (iI v5_16)), (6, .int (iI v6_16))] [] := by
                  intro n16
                  induction n16 using Nat.strongRecOn with
                  | ind n16 ih16 =>
                    intro v4_16 v5_16 v6_16 h
                    have h := hs16 n16 v4_16 v5_16 v6_16 h
                    refine x_iload (q := 74) C dX9_rests_72 6 rfl rfl ?_
                    refine x_iconst (q := 75) (z := 4) C dX9_rests_74 rfl rfl ?_
                    obtain ⟨o17, h⟩ := h
                    refine x_icmp_ge (q := 78) (tgt := 146) C dX9_rests_75 rfl ⟨o17, by decide⟩ rfl (fun c18 => ?_) (fun c18 => ?_)
                    · have h := h.1 c18
                      refine x_iload_n (q := 147) (i := 3) C dX9_rests_146 rfl 3 rfl rfl ?_
                      obtain ⟨o19, h⟩ := h
                      refine x_if_ne (q := 150) (tgt := 155) C dX9_rests_147 rfl o19 rfl (fun c20 => ?_) (fun c20 => ?_)
                      · have h := h.1 c20
                        refine x_iload (q := 157) C dX9_rests_155 5 rfl rfl ?_
                        exact x_iret C dX9_rests_157 h
                      · have h := h.2 c20
                        refine x_iload (q := 152) C dX9_rests_150 4 rfl rfl ?_
                        refine x_goto (tgt := 157) C dX9_rests_152 rfl ?_
                        exact x_iret C dX9_rests_157 h
                    · have h := h.2 c18
                      refine x_aload_n (q := 79) (i := 0) C dX9_rests_78 rfl 0 rfl rfl ?_
                      refine x_getR (q := 82) (c0 := 48) C (Nat.le_of_ble_eq_true rfl) ly_0 fk_RX9_79 rfl dX9_rests_79 rfl ?_
                      refine x_iload (q := 84) C dX9_rests_82 6 rfl rfl ?_
                      obtain ⟨o21, h⟩ := h
                      refine x_iald (q := 85) C (Nat.le_of_ble_eq_true rfl) ly_48 dX9_rests_84 (ix o21 rfl) (Nat.le_of_ble_eq_true rfl) rfl ?_
                      refine x_aload_n (q := 86) (i := 0) C dX9_rests_85 rfl 0 rfl rfl ?_
                      refine x_getR (q := 89) (c0 := 48) C (Nat.le_of_ble_eq_true rfl) ly_0 fk_RX9_79 rfl dX9_rests_86 rfl ?_
                      refine x_iload (q := 91) C dX9_rests_89 6 rfl rfl ?_
                      refine x_iconst (q := 92) (z := 2) C dX9_rests_91 rfl rfl ?_
                      obtain ⟨o22, h⟩ := h
                      refine x_ixor (q := 93) C dX9_rests_92 o22 rfl ?_
                      obtain ⟨o23, h⟩ := h
                      refine x_iald (q := 94) C (Nat.le_of_ble_eq_true rfl) ly_48 dX9_rests_93 (ix o23 rfl) (Nat.le_of_ble_eq_true rfl) rfl ?_
                      obtain ⟨o24, h⟩ := h
                      obtain ⟨o25, h⟩ := h
                      refine x_icmp_lt (q := 97) (tgt := 140) C dX9_rests_94 rfl ⟨o24, o25⟩ rfl (fun c26 => ?_) (fun c26 => ?_)
                      · have h := h.1 c26
                        refine x_iinc (q := 143) (z' := v6_16 + 1) (lv' := [(0, .ref (ad 0)), (1, .int (iI a0)), (2, .int (iI a1)), (3, .int (iI a2)), (4, .int (iI v4_16)), (5, .int (iI v5_16)), (6, .int (iI (v6_16 + 1)))]) C dX9_rests_140 6 rfl rfl (Nat.le_of_ble_eq_true rfl) [1, 2, 3, 4, 5, 6, 0] rfl rfl ?_
                        refine x_goto (tgt := 72) C dX9_rests_143 rfl ?_
                        obtain ⟨n27, hl28, h⟩ := h
                        refine x_sub [0, 1, 2, 3, 4, 5, 6] rfl ?_
                        exact ih16 n27 hl28 _ _ _ h
                      · have h := h.2 c26
                        refine x_aload_n (q := 98) (i := 0) C dX9_rests_97 rfl 0 rfl rfl ?_
                        refine x_getR (q := 101) (c0 := 49) C (Nat.le_of_ble_eq_true rfl) ly_0 fk_RX9_83 rfl dX9_rests_98 rfl ?_
                        refine x_iload (q := 103) C dX9_rests_101 6 rfl rfl ?_
                        refine x_iald (q := 104) C (Nat.le_of_ble_eq_true rfl) ly_49 dX9_rests_103 (ix o21 rfl) (Nat.le_of_ble_eq_true rfl) rfl ?_
                        refine x_aload_n (q := 105) (i := 0) C dX9_rests_104 rfl 0 rfl rfl ?_
                        refine x_getR (q := 108) (c0 := 49) C (Nat.le_of_ble_eq_true rfl) ly_0 fk_RX9_83 rfl dX9_rests_105 rfl ?_
                        refine x_iload (q := 110) C dX9_rests_108 6 rfl rfl ?_
                        refine x_iconst (q := 111) (z := 1) C dX9_rests_110 rfl rfl ?_
                        obtain ⟨o29, h⟩ := h
                        refine x_ixor (q := 112) C dX9_rests_111 o29 rfl ?_
                        obtain ⟨o30, h⟩ := h
                        refine x_iald (q := 113) C (Nat.le_of_ble_eq_true rfl) ly_49 dX9_rests_112 (ix o30 rfl) (Nat.le_of_ble_eq_true rfl) rfl ?_
                        obtain ⟨o31, h⟩ := h
                        obtain ⟨o32, h⟩ := h
                        refine x_icmp_lt (q := 116) (tgt := 140) C dX9_rests_113 rfl ⟨o31, o32⟩ rfl (fun c33 => ?_) (fun c33 => ?_)
                        · have h := h.1 c33
                          refine x_iinc (q := 143) (z' := v6_16 + 1) (lv' := [(0, .ref (ad 0)), (1, .int (iI a0)), (2, .int (iI a1)), (3, .int (iI a2)), (4, .int (iI v4_16)), (5, .int (iI v5_16)), (6, .int (iI (v6_16 + 1)))]) C dX9_rests_140 6 rfl rfl (Nat.le_of_ble_eq_true rfl) [1, 2, 3, 4, 5, 6, 0] rfl rfl ?_
                          refine x_goto (tgt := 72) C dX9_rests_143 rfl ?_
                          obtain ⟨n34, hl35, h⟩ := h
                          refine x_sub [0, 1, 2, 3, 4, 5, 6] rfl ?_
                          exact ih16 n34 hl35 _ _ _ h
                        · have h := h.2 c33
                          refine x_iinc (q := 119) (z' := v4_16 + 1) (lv' := [(0, .ref (ad 0)), (1, .int (iI a0)), (2, .int (iI a1)), (3, .int (iI a2)), (4, .int (iI (v4_16 + 1))), (5, .int (iI v5_16)), (6, .int (iI v6_16))]) C dX9_rests_116 4 rfl rfl (Nat.le_of_ble_eq_true rfl) [1, 2, 3, 4, 0, 5, 6] rfl rfl ?_
                          refine x_iload (q := 121) C dX9_rests_119 5 rfl rfl ?_
                          refine x_bipush (q := 123) (z := (-9)) C dX9_rests_121 rfl rfl ?_
                          obtain ⟨o36, h⟩ := h
                          refine x_icmp_ne (q := 126) (tgt := 140) C dX9_rests_123 rfl ⟨o36, by decide⟩ rfl (fun c37 => ?_) (fun c37 => ?_)
                          · have h := h.1 c37
                            refine x_iinc (q := 143) (z' := v6_16 + 1) (lv' := [(0, .ref (ad 0)), (1, .int (iI a0)), (2, .int (iI a1)), (3, .int (iI a2)), (4, .int (iI (v4_16 + 1))), (5, .int (iI v5_16)), (6, .int (iI (v6_16 + 1)))]) C dX9_rests_140 6 rfl rfl (Nat.le_of_ble_eq_true rfl) [1, 2, 3, 4, 5, 6, 0] rfl rfl ?_
                            refine x_goto (tgt := 72) C dX9_rests_143 rfl ?_
                            obtain ⟨n38, hl39, h⟩ := h
                            refine x_sub [0, 1, 2, 3, 4, 5, 6] rfl ?_
                            exact ih16 n38 hl39 _ _ _ h
                          · have h := h.2 c37
                            refine x_bipush (q := 128) (z := 10) C dX9_rests_126 rfl rfl ?_
                            refine x_iload (q := 130) C dX9_rests_128 6 rfl rfl ?_
                            refine x_iconst (q := 131) (z := 1) C dX9_rests_130 rfl rfl ?_
                            obtain ⟨o40, h⟩ := h
                            refine x_ishr (q := 132) C dX9_rests_131 ⟨o40, by decide⟩ rfl ?_
                            refine x_imul (q := 133) C dX9_rests_132  rfl ?_
                            refine x_iload (q := 135) C dX9_rests_133 6 rfl rfl ?_
                            refine x_iconst (q := 136) (z := 1) C dX9_rests_135 rfl rfl ?_
                            refine x_iand1 (q := 137) C dX9_rests_136  rfl ?_
                            refine x_iadd (q := 138) C dX9_rests_137  rfl ?_
                            refine x_istore (q := 140) (i := 5) (lv' := [(0, .ref (ad 0)), (1, .int (iI a0)), (2, .int (iI a1)), (3, .int (iI a2)), (4, .int (iI (v4_16 + 1))), (5, .int (iI ((10 * (v6_16 / 2 ^ (1 : Int).toNat)) + (v6_16 % 2)))), (6, .int (iI v6_16))]) C dX9_rests_138 (Nat.le_of_ble_eq_true rfl) [1, 2, 3, 4, 5, 0, 6] rfl rfl ?_
                            refine x_iinc (q := 143) (z' := v6_16 + 1) (lv' := [(0, .ref (ad 0)), (1, .int (iI a0)), (2, .int (iI a1)), (3, .int (iI a2)), (4, .int (iI (v4_16 + 1))), (5, .int (iI ((10 * (v6_16 / 2 ^ (1 : Int).toNat)) + (v6_16 % 2)))), (6, .int (iI (v6_16 + 1)))]) C dX9_rests_140 6 rfl rfl (Nat.le_of_ble_eq_true rfl) [1, 2, 3, 4, 5, 6, 0] rfl rfl ?_
                            refine x_goto (tgt := 72) C dX9_rests_143 rfl ?_
                            obtain ⟨n41, hl42, h⟩ := h
                            refine x_sub [0, 1, 2, 3, 4, 5, 6] rfl ?_
                            exact ih16 n41 hl42 _ _ _ h
                exact L16 n016 0 (-9) 0 h016
              · have h := h.2 c15
                refine x_aload_n (q := 49) (i := 0) C dX9_rests_48 rfl 0 rfl rfl ?_
                refine x_iload_n (q := 50) (i := 1) C dX9_rests_49 rfl 1 rfl rfl ?_
                refine x_iload_n (q := 51) (i := 2) C dX9_rests_50 rfl 2 rfl rfl ?_
                refine x_iload (q := 53) C dX9_rests_51 4 rfl rfl ?_
                refine x_virV (q := 56) C (Nat.le_of_ble_eq_true rfl) ly_0 rfl ck_RX9_248 vk_X9_weighPair (m_X9_weighPair l hI h) ⟨⟨rfl, rfl⟩, ⟨Nat.le_of_ble_eq_true rfl, Nat.le_of_ble_eq_true rfl⟩, ⟨Nat.zero_le _, Nat.zero_le _⟩⟩ dX9_rests_53 rfl rfl (Nat.le_of_ble_eq_true rfl) rfl (fun σ43 h => ?_)
                refine x_iinc (q := 59) (z' := v4_13 + 1) (lv' := [(0, .ref (ad 0)), (1, .int (iI a0)), (2, .int (iI a1)), (3, .int (iI a2)), (4, .int (iI (v4_13 + 1)))]) C dX9_rests_56 4 rfl rfl (Nat.le_of_ble_eq_true rfl) [1, 2, 3, 4, 0] rfl rfl ?_
                refine x_goto (tgt := 42) C dX9_rests_59 rfl ?_
                obtain ⟨n44, hl45, h⟩ := h
                refine x_sub [0, 1, 2, 3, 4] rfl ?_
                exact ih13 n44 hl45 _ _ h
          exact L13 n013 0 σ h013
        · have h := h.2 c12
          refine x_bipush (q := 38) (z := (-2)) C dX9_rests_36 rfl rfl ?_
          exact x_iret C dX9_rests_38 h
    · have h := h.2 c6
      refine x_iconst (q := 23) (z := (-1)) C dX9_rests_22 rfl rfl ?_
      exact x_iret C dX9_rests_23 h
abbrev rm_X9_weightOf : Room := { frames := 1, cells := 0, slots := 0, locals := 20 }
def vc_X9_weightOf (σ : GS) (a0 : Int) (a1 : Int) (Post : Int → Prop) : Prop :=
  ∃ I1 : Nat → Int → Int → Prop, (∃ n : Nat, I1 n 1 0) ∧ ∀ (n1 : Nat) (v3_1 : Int) (v4_1 : Int), I1 n1 v3_1 v4_1 →
  (vc_X1_size σ  (fun (z2 : Int) =>
        (rg v4_1) ∧
      ((rg z2) ∧
      ((z2 ≤ v4_1 →
        (Post v3_1)) ∧
      (¬ z2 ≤ v4_1 →
        (((0 ≤ a0 ∧ a0 ≤ 2147483647) ∧ (0 ≤ v4_1 ∧ v4_1 < 32)) ∧
        ((rg ((a0 / 2 ^ v4_1.toNat) % 2)) ∧
        ((¬ ((a0 / 2 ^ v4_1.toNat) % 2) = 1 →
          (∃ n' : Nat, n' < n1 ∧ I1 n' (v3_1 * a1) (v4_1 + 1))) ∧
        (((a0 / 2 ^ v4_1.toNat) % 2) = 1 →
          (∃ n' : Nat, n' < n1 ∧ I1 n' (v3_1 * (10 - a1)) (v4_1 + 1)))))))))))
set_option maxHeartbeats 4000000 in
set_option maxRecDepth 10000 in
theorem m_X9_weightOf (l : Launch) {ad : Nat → Nat} {D : va_G} {cI cZ cG : ClassId} (hI : Ij ad) {σ : GS} {a0 : Int} {a1 : Int} {Post : Int → Prop} (h : vc_X9_weightOf σ a0 a1 Post) : Met l yX9_weightOf (wX yX9_weightOf cX9_weightOf 5 (some .int)) rm_X9_weightOf (va_Pc [.ref (ad 0), .int (iI a0), .int (iI a1)] (Wd ad D cI cZ cG σ)) (QI ad D cI cZ cG (fun z u => u = σ ∧ Post z)) 0 0 (Aw ad) := by
  refine met_V (own := RX9) hI (by decide +kernel) rfl (Nat.le_of_ble_eq_true rfl) ?_
  intro p e s m args below meth c C
  unfold vc_X9_weightOf at h
  show V p l e rm_X9_weightOf s m args below meth c ad D cI cZ cG (Aw ad) 5 0 0 (MQ below (QI ad D cI cZ cG (fun z u => u = σ ∧ Post z)) args s 0 0 (Aw ad)) σ 0 [(0, .ref (ad 0)), (1, .int (iI a0)), (2, .int (iI a1))] []
  refine x_iconst (q := 1) (z := 1) C dX9_weightOf_0 rfl rfl ?_
  refine x_istore_n (q := 2) (i := 3) (lv' := [(0, .ref (ad 0)), (1, .int (iI a0)), (2, .int (iI a1)), (3, .int (iI 1))]) C dX9_weightOf_1 rfl (Nat.le_of_ble_eq_true rfl) [1, 2, 3, 0] rfl rfl ?_
  refine x_iconst (q := 3) (z := 0) C dX9_weightOf_2 rfl rfl ?_
  refine x_istore (q := 5) (i := 4) (lv' := [(0, .ref (ad 0)), (1, .int (iI a0)), (2, .int (iI a1)), (3, .int (iI 1)), (4, .int (iI 0))]) C dX9_weightOf_3 (Nat.le_of_ble_eq_true rfl) [1, 2, 3, 4, 0] rfl rfl ?_
  obtain ⟨I1, ⟨n01, h01⟩, hs1⟩ := h
  have L1 : ∀ (n1 : Nat) (v3_1 : Int) (v4_1 : Int), I1 n1 v3_1 v4_1 → V p l e rm_X9_weightOf s m args below meth c ad D cI cZ cG (Aw ad) 5 0 0 (MQ below (QI ad D cI cZ cG (fun z u => u = σ ∧ Post z)) args s 0 0 (Aw ad)) σ 5 [(0, .ref (ad 0)), (1, .int (iI a0)), (2, .int (iI a1)), (3, .int (iI v3_1)), (4, .int (iI v4_1))] [] := by
    intro n1
    induction n1 using Nat.strongRecOn with
    | ind n1 ih1 =>
      intro v3_1 v4_1 h
      have h := hs1 n1 v3_1 v4_1 h
      refine x_iload (q := 7) C dX9_weightOf_5 4 rfl rfl ?_
      refine x_aload_n (q := 8) (i := 0) C dX9_weightOf_7 rfl 0 rfl rfl ?_
      refine x_getR (q := 11) (c0 := 3) C (Nat.le_of_ble_eq_true rfl) ly_0 fk_RX9_19 rfl dX9_weightOf_8 rfl ?_
      refine x_virI (q := 14) C (Nat.le_of_ble_eq_true rfl) ly_3 rfl ck_RX9_110 vk_X1_size (m_X1_size l hI h) ⟨⟨rfl, rfl⟩, ⟨Nat.le_of_ble_eq_true rfl, Nat.le_of_ble_eq_true rfl⟩, ⟨Nat.zero_le _, Nat.zero_le _⟩⟩ dX9_weightOf_11 rfl rfl (Nat.le_of_ble_eq_true rfl) rfl (fun z2 σ2 h => ?_)
      rw [h.1]
      have h := h.2
      obtain ⟨o3, h⟩ := h
      obtain ⟨o4, h⟩ := h
      refine x_icmp_ge (q := 17) (tgt := 44) C dX9_weightOf_14 rfl ⟨o3, o4⟩ rfl (fun c5 => ?_) (fun c5 => ?_)
      · have h := h.1 c5
        refine x_iload_n (q := 45) (i := 3) C dX9_weightOf_44 rfl 3 rfl rfl ?_
        exact x_iret C dX9_weightOf_45 ⟨rfl, h⟩
      · have h := h.2 c5
        refine x_iload_n (q := 18) (i := 3) C dX9_weightOf_17 rfl 3 rfl rfl ?_
        refine x_iload_n (q := 19) (i := 1) C dX9_weightOf_18 rfl 1 rfl rfl ?_
        refine x_iload (q := 21) C dX9_weightOf_19 4 rfl rfl ?_
        obtain ⟨o6, h⟩ := h
        refine x_ishr (q := 22) C dX9_weightOf_21 o6 rfl ?_
        refine x_iconst (q := 23) (z := 1) C dX9_weightOf_22 rfl rfl ?_
        refine x_iand1 (q := 24) C dX9_weightOf_23  rfl ?_
        refine x_iconst (q := 25) (z := 1) C dX9_weightOf_24 rfl rfl ?_
        obtain ⟨o7, h⟩ := h
        refine x_icmp_ne (q := 28) (tgt := 35) C dX9_weightOf_25 rfl ⟨o7, by decide⟩ rfl (fun c8 => ?_) (fun c8 => ?_)
        · have h := h.1 c8
          refine x_iload_n (q := 36) (i := 2) C dX9_weightOf_35 rfl 2 rfl rfl ?_
          refine x_imul (q := 37) C dX9_weightOf_36  rfl ?_
          refine x_istore_n (q := 38) (i := 3) (lv' := [(0, .ref (ad 0)), (1, .int (iI a0)), (2, .int (iI a1)), (3, .int (iI (v3_1 * a1))), (4, .int (iI v4_1))]) C dX9_weightOf_37 rfl (Nat.le_of_ble_eq_true rfl) [1, 2, 3, 0, 4] rfl rfl ?_
          refine x_iinc (q := 41) (z' := v4_1 + 1) (lv' := [(0, .ref (ad 0)), (1, .int (iI a0)), (2, .int (iI a1)), (3, .int (iI (v3_1 * a1))), (4, .int (iI (v4_1 + 1)))]) C dX9_weightOf_38 4 rfl rfl (Nat.le_of_ble_eq_true rfl) [1, 2, 3, 4, 0] rfl rfl ?_
          refine x_goto (tgt := 5) C dX9_weightOf_41 rfl ?_
          obtain ⟨n9, hl10, h⟩ := h
          refine x_sub [0, 1, 2, 3, 4] rfl ?_
          exact ih1 n9 hl10 _ _ h
        · have h := h.2 c8
          refine x_bipush (q := 30) (z := 10) C dX9_weightOf_28 rfl rfl ?_
          refine x_iload_n (q := 31) (i := 2) C dX9_weightOf_30 rfl 2 rfl rfl ?_
          refine x_isub (q := 32) C dX9_weightOf_31  rfl ?_
          refine x_goto (tgt := 36) C dX9_weightOf_32 rfl ?_
          refine x_imul (q := 37) C dX9_weightOf_36  rfl ?_
          refine x_istore_n (q := 38) (i := 3) (lv' := [(0, .ref (ad 0)), (1, .int (iI a0)), (2, .int (iI a1)), (3, .int (iI (v3_1 * (10 - a1)))), (4, .int (iI v4_1))]) C dX9_weightOf_37 rfl (Nat.le_of_ble_eq_true rfl) [1, 2, 3, 0, 4] rfl rfl ?_
          refine x_iinc (q := 41) (z' := v4_1 + 1) (lv' := [(0, .ref (ad 0)), (1, .int (iI a0)), (2, .int (iI a1)), (3, .int (iI (v3_1 * (10 - a1)))), (4, .int (iI (v4_1 + 1)))]) C dX9_weightOf_38 4 rfl rfl (Nat.le_of_ble_eq_true rfl) [1, 2, 3, 4, 0] rfl rfl ?_
          refine x_goto (tgt := 5) C dX9_weightOf_41 rfl ?_
          obtain ⟨n11, hl12, h⟩ := h
          refine x_sub [0, 1, 2, 3, 4] rfl ?_
          exact ih1 n11 hl12 _ _ h
  exact L1 n01 1 0 h01
abbrev rm_X9_drops : Room := { frames := 5, cells := 0, slots := 0, locals := 112 }
def vc_X9_drops (σ : GS) (a0 : Int) (a1 : Int) (a2 : Int) (Post : Int → GS → Prop) : Prop :=
  vc_X9_isBit σ a0 (fun (z1 : Int) =>
    (rg z1) ∧
  ((z1 = 0 →
    (Post (-2) σ)) ∧
  (¬ z1 = 0 →
    ((rg a1) ∧
    ((a1 < 0 →
      (Post (-2) σ)) ∧
    (¬ a1 < 0 →
      ((a1 ≤ 10 →
        (∃ I7 : Nat → Int → Int → Prop, (∃ n : Nat, I7 n 1 0) ∧ ∀ (n7 : Nat) (v5_7 : Int) (v6_7 : Int), I7 n7 v5_7 v6_7 →
        (vc_X1_size σ  (fun (z8 : Int) =>
              (rg v6_7) ∧
            ((rg z8) ∧
            ((z8 ≤ v6_7 →
              (∃ I12 : Nat → Int → Int → GS → Prop, (∃ n : Nat, I12 n 0 0 σ) ∧ ∀ (n12 : Nat) (v4_12 : Int) (v6_12 : Int) (σ12 : GS), I12 n12 v4_12 v6_12 σ12 →
              (vc_X1_size σ12  (fun (z13 : Int) =>
                    ((0 ≤ (1 : Int) ∧ (1 : Int) * 2 ^ z13.toNat ≤ 2147483647) ∧ (0 ≤ z13 ∧ z13 < 32)) ∧
                  ((rg v6_12) ∧
                  ((rg (1 * 2 ^ z13.toNat)) ∧
                  (((1 * 2 ^ z13.toNat) ≤ v6_12 →
                    (vc_X9_fraction σ12 v4_12 v5_7 a2 (fun (z18 : Int) =>
                      Post z18 σ12))) ∧
                  (¬ (1 * 2 ^ z13.toNat) ≤ v6_12 →
                    (vc_X9_weightOf σ12 v6_12 a1 (fun (z19 : Int) =>
                      (rg z19) ∧
                    ((z19 ≤ 0 →
                      (∃ n' : Nat, n' < n12 ∧ I12 n' v4_12 (v6_12 + 1) σ12)) ∧
                    (¬ z19 ≤ 0 →
                      (vc_X6_layStaying σ12 6 a0 v6_12 (fun (σ24 : GS) =>
                        vc_X8_isRead σ24  (fun (z25 : Int) =>
                        (rg z25) ∧
                      ((z25 = 0 →
                        (∃ n' : Nat, n' < n12 ∧ I12 n' (v4_12 + 0) (v6_12 + 1) σ24)) ∧
                      (¬ z25 = 0 →
                        (∃ n' : Nat, n' < n12 ∧ I12 n' (v4_12 + z19) (v6_12 + 1) σ24)))))))))))))))))) ∧
            (¬ z8 ≤ v6_7 →
              (∃ n' : Nat, n' < n7 ∧ I7 n' (v5_7 * 10) (v6_7 + 1))))))))) ∧
      (¬ a1 ≤ 10 →
        (Post (-2) σ)))))))))
set_option maxHeartbeats 4000000 in
set_option maxRecDepth 10000 in
theorem m_X9_drops (l : Launch) {ad : Nat → Nat} {D : va_G} {cI cZ cG : ClassId} (hI : Ij ad) {σ : GS} {a0 : Int} {a1 : Int} {a2 : Int} {Post : Int → GS → Prop} (h : vc_X9_drops σ a0 a1 a2 Post) : Met l yX9_drops (wX yX9_drops cX9_drops 8 (some .int)) rm_X9_drops (va_Pc [.ref (ad 0), .int (iI a0), .int (iI a1), .int (iI a2)] (Wd ad D cI cZ cG σ)) (QI ad D cI cZ cG Post) 0 0 (Aw ad) := by
  refine met_V (own := RX9) hI (by decide +kernel) rfl (Nat.le_of_ble_eq_true rfl) ?_
  intro p e s m args below meth c C
  unfold vc_X9_drops at h
  show V p l e rm_X9_drops s m args below meth c ad D cI cZ cG (Aw ad) 8 0 0 (MQ below (QI ad D cI cZ cG Post) args s 0 0 (Aw ad)) σ 0 [(0, .ref (ad 0)), (1, .int (iI a0)), (2, .int (iI a1)), (3, .int (iI a2))] []
  refine x_iload_n (q := 1) (i := 1) C dX9_drops_0 rfl 1 rfl rfl ?_
  refine x_staI (q := 4) C ck_RX9_154 t2_155 (m_X9_isBit l hI h) ⟨⟨rfl, rfl⟩, ⟨Nat.le_of_ble_eq_true rfl, Nat.le_of_ble_eq_true rfl⟩, ⟨Nat.zero_le _, Nat.zero_le _⟩⟩ dX9_drops_1 rfl rfl (Nat.le_of_ble_eq_true rfl) rfl (fun z1 σ1 h => ?_)
  rw [h.1]
  have h := h.2
  obtain ⟨o2, h⟩ := h
  refine x_if_eq (q := 7) (tgt := 17) C dX9_drops_4 rfl o2 rfl (fun c3 => ?_) (fun c3 => ?_)
  · have h := h.1 c3
    refine x_bipush (q := 19) (z := (-2)) C dX9_drops_17 rfl rfl ?_
    exact x_iret C dX9_drops_19 h
  · have h := h.2 c3
    refine x_iload_n (q := 8) (i := 2) C dX9_drops_7 rfl 2 rfl rfl ?_
    obtain ⟨o4, h⟩ := h
    refine x_if_lt (q := 11) (tgt := 17) C dX9_drops_8 rfl o4 rfl (fun c5 => ?_) (fun c5 => ?_)
    · have h := h.1 c5
      refine x_bipush (q := 19) (z := (-2)) C dX9_drops_17 rfl rfl ?_
      exact x_iret C dX9_drops_19 h
    · have h := h.2 c5
      refine x_iload_n (q := 12) (i := 2) C dX9_drops_11 rfl 2 rfl rfl ?_
      refine x_bipush (q := 14) (z := 10) C dX9_drops_12 rfl rfl ?_
      refine x_icmp_le (q := 17) (tgt := 20) C dX9_drops_14 rfl ⟨o4, by decide⟩ rfl (fun c6 => ?_) (fun c6 => ?_)
      · have h := h.1 c6
        refine x_iconst (q := 21) (z := 0) C dX9_drops_20 rfl rfl ?_
        refine x_istore (q := 23) (i := 4) (lv' := [(0, .ref (ad 0)), (1, .int (iI a0)), (2, .int (iI a1)), (3, .int (iI a2)), (4, .int (iI 0))]) C dX9_drops_21 (Nat.le_of_ble_eq_true rfl) [1, 2, 3, 4, 0] rfl rfl ?_
        refine x_iconst (q := 24) (z := 1) C dX9_drops_23 rfl rfl ?_
        refine x_istore (q := 26) (i := 5) (lv' := [(0, .ref (ad 0)), (1, .int (iI a0)), (2, .int (iI a1)), (3, .int (iI a2)), (4, .int (iI 0)), (5, .int (iI 1))]) C dX9_drops_24 (Nat.le_of_ble_eq_true rfl) [1, 2, 3, 4, 5, 0] rfl rfl ?_
        refine x_iconst (q := 27) (z := 0) C dX9_drops_26 rfl rfl ?_
        refine x_istore (q := 29) (i := 6) (lv' := [(0, .ref (ad 0)), (1, .int (iI a0)), (2, .int (iI a1)), (3, .int (iI a2)), (4, .int (iI 0)), (5, .int (iI 1)), (6, .int (iI 0))]) C dX9_drops_27 (Nat.le_of_ble_eq_true rfl) [1, 2, 3, 4, 5, 6, 0] rfl rfl ?_
        obtain ⟨I7, ⟨n07, h07⟩, hs7⟩ := h
        have L7 : ∀ (n7 : Nat) (v5_7 : Int) (v6_7 : Int), I7 n7 v5_7 v6_7 → V p l e rm_X9_drops s m args below meth c ad D cI cZ cG (Aw ad) 8 0 0 (MQ below (QI ad D cI cZ cG Post) args s 0 0 (Aw ad)) σ 29 [(0, .ref (ad 0)), (1, .int (iI a0)), (2, .int (iI a1)), (3, .int (iI a2)), (4, .int (iI 0)), (5, .int (iI v5_7)), (6, .int (iI v6_7))] [] := by
          intro n7
          induction n7 using Nat.strongRecOn with
          | ind n7 ih7 =>
            intro v5_7 v6_7 h
            have h := hs7 n7 v5_7 v6_7 h
            refine x_iload (q := 31) C dX9_drops_29 6 rfl rfl ?_
            refine x_aload_n (q := 32) (i := 0) C dX9_drops_31 rfl 0 rfl rfl ?_
            refine x_getR (q := 35) (c0 := 3) C (Nat.le_of_ble_eq_true rfl) ly_0 fk_RX9_19 rfl dX9_drops_32 rfl ?_
            refine x_virI (q := 38) C (Nat.le_of_ble_eq_true rfl) ly_3 rfl ck_RX9_110 vk_X1_size (m_X1_size l hI h) ⟨⟨rfl, rfl⟩, ⟨Nat.le_of_ble_eq_true rfl, Nat.le_of_ble_eq_true rfl⟩, ⟨Nat.zero_le _, Nat.zero_le _⟩⟩ dX9_drops_35 rfl rfl (Nat.le_of_ble_eq_true rfl) rfl (fun z8 σ8 h => ?_)
            rw [h.1]
            have h := h.2
            obtain ⟨o9, h⟩ := h
            obtain ⟨o10, h⟩ := h
            refine x_icmp_ge (q := 41) (tgt := 54) C dX9_drops_38 rfl ⟨o9, o10⟩ rfl (fun c11 => ?_) (fun c11 => ?_)
            · have h := h.1 c11
              refine x_iconst (q := 55) (z := 0) C dX9_drops_54 rfl rfl ?_
              refine x_istore (q := 57) (i := 6) (lv' := [(0, .ref (ad 0)), (1, .int (iI a0)), (2, .int (iI a1)), (3, .int (iI a2)), (4, .int (iI 0)), (5, .int (iI v5_7)), (6, .int (iI 0))]) C dX9_drops_55 (Nat.le_of_ble_eq_true rfl) [1, 2, 3, 4, 5, 6, 0] rfl rfl ?_
              obtain ⟨I12, ⟨n012, h012⟩, hs12⟩ := h
              have L12 : ∀ (n12 : Nat) (v4_12 : Int) (v6_12 : Int) (σ12 : GS), I12 n12 v4_12 v6_12 σ12 → V p l e rm_X9_drops s m args below meth c ad D cI cZ cG (Aw ad) 8 0 0 (MQ below (QI ad D cI cZ cG Post) args s 0 0 (Aw ad)) σ12 57 [(0, .ref (ad 0)), (1, .int (iI a0)), (2, .int (iI a1)), (3, .int (iI a2)), (4, .int (iI v4_12)), (5, .int (iI v5_7)), (6, .int (iI v6_12))] [] := by
                intro n12
                induction n12 using Nat.strongRecOn with
                | ind n12 ih12 =>
                  intro v4_12 v6_12 σ12 h
                  have h := hs12 n12 v4_12 v6_12 σ12 h
                  refine x_iload (q := 59) C dX9_drops_57 6 rfl rfl ?_
                  refine x_iconst (q := 60) (z := 1) C dX9_drops_59 rfl rfl ?_
                  refine x_aload_n (q := 61) (i := 0) C dX9_drops_60 rfl 0 rfl rfl ?_
                  refine x_getR (q := 64) (c0 := 3) C (Nat.le_of_ble_eq_true rfl) ly_0 fk_RX9_19 rfl dX9_drops_61 rfl ?_
                  refine x_virI (q := 67) C (Nat.le_of_ble_eq_true rfl) ly_3 rfl ck_RX9_110 vk_X1_size (m_X1_size l hI h) ⟨⟨rfl, rfl⟩, ⟨Nat.le_of_ble_eq_true rfl, Nat.le_of_ble_eq_true rfl⟩, ⟨Nat.zero_le _, Nat.zero_le _⟩⟩ dX9_drops_64 rfl rfl (Nat.le_of_ble_eq_true rfl) rfl (fun z13 σ13 h => ?_)
                  rw [h.1]
                  have h := h.2
                  obtain ⟨o14, h⟩ := h
                  refine x_ishl (q := 68) C dX9_drops_67 o14 rfl ?_
                  obtain ⟨o15, h⟩ := h
                  obtain ⟨o16, h⟩ := h
                  refine x_icmp_ge (q := 71) (tgt := 130) C dX9_drops_68 rfl ⟨o15, o16⟩ rfl (fun c17 => ?_) (fun c17 => ?_)
                  · have h := h.1 c17
                    refine x_iload (q := 132) C dX9_drops_130 4 rfl rfl ?_
                    refine x_iload (q := 134) C dX9_drops_132 5 rfl rfl ?_
                    refine x_iload_n (q := 135) (i := 3) C dX9_drops_134 rfl 3 rfl rfl ?_
                    refine x_staI (q := 138) C ck_RX9_244 t3_126 (m_X9_fraction l hI h) ⟨⟨rfl, rfl⟩, ⟨Nat.le_of_ble_eq_true rfl, Nat.le_of_ble_eq_true rfl⟩, ⟨Nat.zero_le _, Nat.zero_le _⟩⟩ dX9_drops_135 rfl rfl (Nat.le_of_ble_eq_true rfl) rfl (fun z18 σ18 h => ?_)
                    rw [h.1]
                    have h := h.2
                    exact x_iret C dX9_drops_138 h
                  · have h := h.2 c17
                    refine x_aload_n (q := 72) (i := 0) C dX9_drops_71 rfl 0 rfl rfl ?_
                    refine x_iload (q := 74) C dX9_drops_72 6 rfl rfl ?_
                    refine x_iload_n (q := 75) (i := 2) C dX9_drops_74 rfl 2 rfl rfl ?_
                    refine x_virI (q := 78) C (Nat.le_of_ble_eq_true rfl) ly_0 rfl ck_RX9_252 vk_X9_weightOf (m_X9_weightOf l hI h) ⟨⟨rfl, rfl⟩, ⟨Nat.le_of_ble_eq_true rfl, Nat.le_of_ble_eq_true rfl⟩, ⟨Nat.zero_le _, Nat.zero_le _⟩⟩ dX9_drops_75 rfl rfl (Nat.le_of_ble_eq_true rfl) rfl (fun z19 σ19 h => ?_)
                    rw [h.1]
                    have h := h.2
                    refine x_istore (q := 80) (i := 7) (lv' := [(0, .ref (ad 0)), (1, .int (iI a0)), (2, .int (iI a1)), (3, .int (iI a2)), (4, .int (iI v4_12)), (5, .int (iI v5_7)), (6, .int (iI v6_12)), (7, .int (iI z19))]) C dX9_drops_78 (Nat.le_of_ble_eq_true rfl) [1, 2, 3, 4, 5, 6, 7, 0] rfl rfl ?_
                    refine x_iload (q := 82) C dX9_drops_80 7 rfl rfl ?_
                    obtain ⟨o20, h⟩ := h
                    refine x_if_le (q := 85) (tgt := 124) C dX9_drops_82 rfl o20 rfl (fun c21 => ?_) (fun c21 => ?_)
                    · have h := h.1 c21
                      refine x_iinc (q := 127) (z' := v6_12 + 1) (lv' := [(0, .ref (ad 0)), (1, .int (iI a0)), (2, .int (iI a1)), (3, .int (iI a2)), (4, .int (iI v4_12)), (5, .int (iI v5_7)), (6, .int (iI (v6_12 + 1))), (7, .int (iI z19))]) C dX9_drops_124 6 rfl rfl (Nat.le_of_ble_eq_true rfl) [1, 2, 3, 4, 5, 6, 0, 7] rfl rfl ?_
                      refine x_goto (tgt := 57) C dX9_drops_127 rfl ?_
                      obtain ⟨n22, hl23, h⟩ := h
                      refine x_sub [0, 1, 2, 3, 4, 5, 6] rfl ?_
                      exact ih12 n22 hl23 _ _ _ h
                    · have h := h.2 c21
                      refine x_aload_n (q := 86) (i := 0) C dX9_drops_85 rfl 0 rfl rfl ?_
                      refine x_getR (q := 89) (c0 := 10) C (Nat.le_of_ble_eq_true rfl) ly_0 fk_RX9_38 rfl dX9_drops_86 rfl ?_
                      refine x_aload_n (q := 90) (i := 0) C dX9_drops_89 rfl 0 rfl rfl ?_
                      refine x_getR (q := 93) (c0 := 6) C (Nat.le_of_ble_eq_true rfl) ly_0 fk_RX9_28 rfl dX9_drops_90 rfl ?_
                      refine x_iload_n (q := 94) (i := 1) C dX9_drops_93 rfl 1 rfl rfl ?_
                      refine x_iload (q := 96) C dX9_drops_94 6 rfl rfl ?_
                      refine x_virV (q := 99) C (Nat.le_of_ble_eq_true rfl) ly_10 rfl ck_RX9_256 vk_X6_layStaying (m_X6_layStaying l hI h) ⟨⟨rfl, rfl⟩, ⟨Nat.le_of_ble_eq_true rfl, Nat.le_of_ble_eq_true rfl⟩, ⟨Nat.zero_le _, Nat.zero_le _⟩⟩ dX9_drops_96 rfl rfl (Nat.le_of_ble_eq_true rfl) rfl (fun σ24 h => ?_)
                      refine x_iload (q := 101) C dX9_drops_99 4 rfl rfl ?_
                      refine x_aload_n (q := 102) (i := 0) C dX9_drops_101 rfl 0 rfl rfl ?_
                      refine x_getR (q := 105) (c0 := 21) C (Nat.le_of_ble_eq_true rfl) ly_0 fk_RX9_54 rfl dX9_drops_102 rfl ?_
                      refine x_aload_n (q := 106) (i := 0) C dX9_drops_105 rfl 0 rfl rfl ?_
                      refine x_getR (q := 109) (c0 := 10) C (Nat.le_of_ble_eq_true rfl) ly_0 fk_RX9_38 rfl dX9_drops_106 rfl ?_
                      refine x_virI (q := 112) C (Nat.le_of_ble_eq_true rfl) ly_21 rfl ck_RX9_202 vk_X8_isRead (m_X8_isRead l hI h) ⟨⟨rfl, rfl⟩, ⟨Nat.le_of_ble_eq_true rfl, Nat.le_of_ble_eq_true rfl⟩, ⟨Nat.zero_le _, Nat.zero_le _⟩⟩ dX9_drops_109 rfl rfl (Nat.le_of_ble_eq_true rfl) rfl (fun z25 σ25 h => ?_)
                      rw [h.1]
                      have h := h.2
                      obtain ⟨o26, h⟩ := h
                      refine x_if_eq (q := 115) (tgt := 120) C dX9_drops_112 rfl o26 rfl (fun c27 => ?_) (fun c27 => ?_)
                      · have h := h.1 c27
                        refine x_iconst (q := 121) (z := 0) C dX9_drops_120 rfl rfl ?_
                        refine x_iadd (q := 122) C dX9_drops_121  rfl ?_
                        refine x_istore (q := 124) (i := 4) (lv' := [(0, .ref (ad 0)), (1, .int (iI a0)), (2, .int (iI a1)), (3, .int (iI a2)), (4, .int (iI (v4_12 + 0))), (5, .int (iI v5_7)), (6, .int (iI v6_12)), (7, .int (iI z19))]) C dX9_drops_122 (Nat.le_of_ble_eq_true rfl) [1, 2, 3, 4, 0, 5, 6, 7] rfl rfl ?_
                        refine x_iinc (q := 127) (z' := v6_12 + 1) (lv' := [(0, .ref (ad 0)), (1, .int (iI a0)), (2, .int (iI a1)), (3, .int (iI a2)), (4, .int (iI (v4_12 + 0))), (5, .int (iI v5_7)), (6, .int (iI (v6_12 + 1))), (7, .int (iI z19))]) C dX9_drops_124 6 rfl rfl (Nat.le_of_ble_eq_true rfl) [1, 2, 3, 4, 5, 6, 0, 7] rfl rfl ?_
                        refine x_goto (tgt := 57) C dX9_drops_127 rfl ?_
                        obtain ⟨n28, hl29, h⟩ := h
                        refine x_sub [0, 1, 2, 3, 4, 5, 6] rfl ?_
                        exact ih12 n28 hl29 _ _ _ h
                      · have h := h.2 c27
                        refine x_iload (q := 117) C dX9_drops_115 7 rfl rfl ?_
                        refine x_goto (tgt := 121) C dX9_drops_117 rfl ?_
                        refine x_iadd (q := 122) C dX9_drops_121  rfl ?_
                        refine x_istore (q := 124) (i := 4) (lv' := [(0, .ref (ad 0)), (1, .int (iI a0)), (2, .int (iI a1)), (3, .int (iI a2)), (4, .int (iI (v4_12 + z19))), (5, .int (iI v5_7)), (6, .int (iI v6_12)), (7, .int (iI z19))]) C dX9_drops_122 (Nat.le_of_ble_eq_true rfl) [1, 2, 3, 4, 0, 5, 6, 7] rfl rfl ?_
                        refine x_iinc (q := 127) (z' := v6_12 + 1) (lv' := [(0, .ref (ad 0)), (1, .int (iI a0)), (2, .int (iI a1)), (3, .int (iI a2)), (4, .int (iI (v4_12 + z19))), (5, .int (iI v5_7)), (6, .int (iI (v6_12 + 1))), (7, .int (iI z19))]) C dX9_drops_124 6 rfl rfl (Nat.le_of_ble_eq_true rfl) [1, 2, 3, 4, 5, 6, 0, 7] rfl rfl ?_
                        refine x_goto (tgt := 57) C dX9_drops_127 rfl ?_
                        obtain ⟨n30, hl31, h⟩ := h
                        refine x_sub [0, 1, 2, 3, 4, 5, 6] rfl ?_
                        exact ih12 n30 hl31 _ _ _ h
              exact L12 n012 0 0 σ h012
            · have h := h.2 c11
              refine x_iload (q := 43) C dX9_drops_41 5 rfl rfl ?_
              refine x_bipush (q := 45) (z := 10) C dX9_drops_43 rfl rfl ?_
              refine x_imul (q := 46) C dX9_drops_45  rfl ?_
              refine x_istore (q := 48) (i := 5) (lv' := [(0, .ref (ad 0)), (1, .int (iI a0)), (2, .int (iI a1)), (3, .int (iI a2)), (4, .int (iI 0)), (5, .int (iI (v5_7 * 10))), (6, .int (iI v6_7))]) C dX9_drops_46 (Nat.le_of_ble_eq_true rfl) [1, 2, 3, 4, 5, 0, 6] rfl rfl ?_
              refine x_iinc (q := 51) (z' := v6_7 + 1) (lv' := [(0, .ref (ad 0)), (1, .int (iI a0)), (2, .int (iI a1)), (3, .int (iI a2)), (4, .int (iI 0)), (5, .int (iI (v5_7 * 10))), (6, .int (iI (v6_7 + 1)))]) C dX9_drops_48 6 rfl rfl (Nat.le_of_ble_eq_true rfl) [1, 2, 3, 4, 5, 6, 0] rfl rfl ?_
              refine x_goto (tgt := 29) C dX9_drops_51 rfl ?_
              obtain ⟨n32, hl33, h⟩ := h
              refine x_sub [0, 1, 2, 3, 4, 5, 6] rfl ?_
              exact ih7 n32 hl33 _ _ h
        exact L7 n07 1 0 h07
      · have h := h.2 c6
        refine x_bipush (q := 19) (z := (-2)) C dX9_drops_17 rfl rfl ?_
        exact x_iret C dX9_drops_19 h
abbrev rm_X9_seed : Room := { frames := 0, cells := 0, slots := 0, locals := 0 }
def vc_X9_seed (σ : GS) (a0 : Int) (Post : Int → GS → Prop) : Prop :=
  Post (σ 0 13) (up2 σ 0 13 a0)
set_option maxHeartbeats 4000000 in
set_option maxRecDepth 10000 in
theorem m_X9_seed (l : Launch) {ad : Nat → Nat} {D : va_G} {cI cZ cG : ClassId} (hI : Ij ad) {σ : GS} {a0 : Int} {Post : Int → GS → Prop} (h : vc_X9_seed σ a0 Post) : Met l yX9_seed (wX yX9_seed cX9_seed 5 (some .long)) rm_X9_seed (va_Pc [.ref (ad 0), .long (lI a0)] (Wd ad D cI cZ cG σ)) (QL ad D cI cZ cG Post) 0 0 (Aw ad) := by
  refine met_V (own := RX9) hI (by decide +kernel) rfl (Nat.le_of_ble_eq_true rfl) ?_
  intro p e s m args below meth c C
  unfold vc_X9_seed at h
  show V p l e rm_X9_seed s m args below meth c ad D cI cZ cG (Aw ad) 5 0 0 (MQ below (QL ad D cI cZ cG Post) args s 0 0 (Aw ad)) σ 0 [(0, .ref (ad 0)), (1, .long (lI a0))] []
  refine x_aload_n (q := 1) (i := 0) C dX9_seed_0 rfl 0 rfl rfl ?_
  refine x_getL (q := 4) C (Nat.le_of_ble_eq_true rfl) ly_0 fk_RX9_260 rfl dX9_seed_1 rfl ?_
  refine x_lstore_n (q := 5) (i := 3) (lv' := [(0, .ref (ad 0)), (1, .long (lI a0)), (3, .long (lI (σ 0 13)))]) C dX9_seed_4 rfl (Nat.le_of_ble_eq_true rfl) [1, 2, 0] rfl rfl ?_
  refine x_aload_n (q := 6) (i := 0) C dX9_seed_5 rfl 0 rfl rfl ?_
  refine x_lload_n (q := 7) (i := 1) C dX9_seed_6 rfl 1 rfl rfl ?_
  refine x_putL (q := 10) C (Nat.le_of_ble_eq_true rfl) ly_0 fk_RX9_260 rfl tyX9 tyX9_ok nmX9 rfl (tyX9_ok 13 (Nat.le_of_ble_eq_true rfl)) dX9_seed_7 rfl ?_
  refine x_lload_n (q := 11) (i := 3) C dX9_seed_10 rfl 2 rfl rfl ?_
  exact x_lret C dX9_seed_11 h
abbrev rm_X9_passYear : Room := { frames := 4, cells := 0, slots := 0, locals := 85 }
def vc_X9_passYear (σ : GS) (a0 : Int) (Post : GS → Prop) : Prop :=
  (rg a0) ∧
  (((5 : Int) ≤ a0 →
    (((10 : Int) ≤ a0 →
      (((14 : Int) ≤ a0 →
        (vc_X2_clear σ 8 (fun (σ5 : GS) =>
          Post σ5))) ∧
      (¬ (14 : Int) ≤ a0 →
        (vc_X2_widenAll σ 8 (fun (z6 : Int) (σ6 : GS) =>
          Post σ6))))) ∧
    (¬ (10 : Int) ≤ a0 →
      (vc_X2_narrow σ 8 (a0 - 5) (fun (z7 : Int) (σ7 : GS) =>
        Post σ7))))) ∧
  (¬ (5 : Int) ≤ a0 →
    (vc_X2_widen σ 8 a0 (fun (z8 : Int) (σ8 : GS) =>
      Post σ8))))
set_option maxHeartbeats 4000000 in
set_option maxRecDepth 10000 in
theorem m_X9_passYear (l : Launch) {ad : Nat → Nat} {D : va_G} {cI cZ cG : ClassId} (hI : Ij ad) {σ : GS} {a0 : Int} {Post : GS → Prop} (h : vc_X9_passYear σ a0 Post) : Met l yX9_passYear (wX yX9_passYear cX9_passYear 2 none) rm_X9_passYear (va_Pc [.ref (ad 0), .int (iI a0)] (Wd ad D cI cZ cG σ)) (QV ad D cI cZ cG Post) 0 0 (Aw ad) := by
  refine met_V (own := RX9) hI (by decide +kernel) rfl (Nat.le_of_ble_eq_true rfl) ?_
  intro p e s m args below meth c C
  unfold vc_X9_passYear at h
  show V p l e rm_X9_passYear s m args below meth c ad D cI cZ cG (Aw ad) 2 0 0 (MQ below (QV ad D cI cZ cG Post) args s 0 0 (Aw ad)) σ 0 [(0, .ref (ad 0)), (1, .int (iI a0))] []
  refine x_iload_n (q := 1) (i := 1) C dX9_passYear_0 rfl 1 rfl rfl ?_
  refine x_iconst (q := 2) (z := 5) C dX9_passYear_1 rfl rfl ?_
  obtain ⟨o1, h⟩ := h
  refine x_icmp_ge (q := 5) (tgt := 17) C dX9_passYear_2 rfl ⟨o1, by decide⟩ rfl (fun c2 => ?_) (fun c2 => ?_)
  · have h := h.1 c2
    refine x_iload_n (q := 18) (i := 1) C dX9_passYear_17 rfl 1 rfl rfl ?_
    refine x_bipush (q := 20) (z := 10) C dX9_passYear_18 rfl rfl ?_
    refine x_icmp_ge (q := 23) (tgt := 37) C dX9_passYear_20 rfl ⟨o1, by decide⟩ rfl (fun c3 => ?_) (fun c3 => ?_)
    · have h := h.1 c3
      refine x_iload_n (q := 38) (i := 1) C dX9_passYear_37 rfl 1 rfl rfl ?_
      refine x_bipush (q := 40) (z := 14) C dX9_passYear_38 rfl rfl ?_
      refine x_icmp_ge (q := 43) (tgt := 54) C dX9_passYear_40 rfl ⟨o1, by decide⟩ rfl (fun c4 => ?_) (fun c4 => ?_)
      · have h := h.1 c4
        refine x_aload_n (q := 55) (i := 0) C dX9_passYear_54 rfl 0 rfl rfl ?_
        refine x_getR (q := 58) (c0 := 8) C (Nat.le_of_ble_eq_true rfl) ly_0 fk_RX9_32 rfl dX9_passYear_55 rfl ?_
        refine x_virV (q := 61) C (Nat.le_of_ble_eq_true rfl) ly_8 rfl ck_RX9_107 vk_X2_clear (m_X2_clear l hI h) ⟨⟨rfl, rfl⟩, ⟨Nat.le_of_ble_eq_true rfl, Nat.le_of_ble_eq_true rfl⟩, ⟨Nat.zero_le _, Nat.zero_le _⟩⟩ dX9_passYear_58 rfl rfl (Nat.le_of_ble_eq_true rfl) rfl (fun σ5 h => ?_)
        exact x_vret C dX9_passYear_61 h
      · have h := h.2 c4
        refine x_aload_n (q := 44) (i := 0) C dX9_passYear_43 rfl 0 rfl rfl ?_
        refine x_getR (q := 47) (c0 := 8) C (Nat.le_of_ble_eq_true rfl) ly_0 fk_RX9_32 rfl dX9_passYear_44 rfl ?_
        refine x_virI (q := 50) C (Nat.le_of_ble_eq_true rfl) ly_8 rfl ck_RX9_179 vk_X2_widenAll (m_X2_widenAll l hI h) ⟨⟨rfl, rfl⟩, ⟨Nat.le_of_ble_eq_true rfl, Nat.le_of_ble_eq_true rfl⟩, ⟨Nat.zero_le _, Nat.zero_le _⟩⟩ dX9_passYear_47 rfl rfl (Nat.le_of_ble_eq_true rfl) rfl (fun z6 σ6 h => ?_)
        refine x_pop (q := 51) C dX9_passYear_50 rfl rfl ?_
        refine x_goto (tgt := 61) C dX9_passYear_51 rfl ?_
        exact x_vret C dX9_passYear_61 h
    · have h := h.2 c3
      refine x_aload_n (q := 24) (i := 0) C dX9_passYear_23 rfl 0 rfl rfl ?_
      refine x_getR (q := 27) (c0 := 8) C (Nat.le_of_ble_eq_true rfl) ly_0 fk_RX9_32 rfl dX9_passYear_24 rfl ?_
      refine x_iload_n (q := 28) (i := 1) C dX9_passYear_27 rfl 1 rfl rfl ?_
      refine x_iconst (q := 29) (z := 5) C dX9_passYear_28 rfl rfl ?_
      refine x_isub (q := 30) C dX9_passYear_29  rfl ?_
      refine x_virI (q := 33) C (Nat.le_of_ble_eq_true rfl) ly_8 rfl ck_RX9_176 vk_X2_narrow (m_X2_narrow l hI h) ⟨⟨rfl, rfl⟩, ⟨Nat.le_of_ble_eq_true rfl, Nat.le_of_ble_eq_true rfl⟩, ⟨Nat.zero_le _, Nat.zero_le _⟩⟩ dX9_passYear_30 rfl rfl (Nat.le_of_ble_eq_true rfl) rfl (fun z7 σ7 h => ?_)
      refine x_pop (q := 34) C dX9_passYear_33 rfl rfl ?_
      refine x_goto (tgt := 61) C dX9_passYear_34 rfl ?_
      exact x_vret C dX9_passYear_61 h
  · have h := h.2 c2
    refine x_aload_n (q := 6) (i := 0) C dX9_passYear_5 rfl 0 rfl rfl ?_
    refine x_getR (q := 9) (c0 := 8) C (Nat.le_of_ble_eq_true rfl) ly_0 fk_RX9_32 rfl dX9_passYear_6 rfl ?_
    refine x_iload_n (q := 10) (i := 1) C dX9_passYear_9 rfl 1 rfl rfl ?_
    refine x_virI (q := 13) C (Nat.le_of_ble_eq_true rfl) ly_8 rfl ck_RX9_170 vk_X2_widen (m_X2_widen l hI h) ⟨⟨rfl, rfl⟩, ⟨Nat.le_of_ble_eq_true rfl, Nat.le_of_ble_eq_true rfl⟩, ⟨Nat.zero_le _, Nat.zero_le _⟩⟩ dX9_passYear_10 rfl rfl (Nat.le_of_ble_eq_true rfl) rfl (fun z8 σ8 h => ?_)
    refine x_pop (q := 14) C dX9_passYear_13 rfl rfl ?_
    refine x_goto (tgt := 61) C dX9_passYear_14 rfl ?_
    exact x_vret C dX9_passYear_61 h
abbrev rm_X9_years : Room := { frames := 5, cells := 0, slots := 0, locals := 106 }
def vc_X9_years (σ : GS) (a0 : Int) (Post : Int → GS → Prop) : Prop :=
  (rg a0) ∧
  ((a0 < 1 →
    (Post (-2) σ)) ∧
  (¬ a0 < 1 →
    ((a0 ≤ 30 →
      (vc_X2_copyFrom σ 8 6 (fun (σ4 : GS) =>
        ∃ I5 : Nat → Int → Int → GS → Prop, (∃ n : Nat, I5 n 0 0 σ4) ∧ ∀ (n5 : Nat) (v2_5 : Int) (v3_5 : Int) (σ5 : GS), I5 n5 v2_5 v3_5 σ5 →
      ((rg v3_5) ∧
          ((a0 ≤ v3_5 →
            (Post v2_5 σ5)) ∧
          (¬ a0 ≤ v3_5 →
            ((0 ≤ (((up2 σ5 0 13 (((σ5 0 13) * 6364136223846793005) + 1442695040888963407)) 0 13) % 18446744073709551616 / 8589934592) ∧ (((up2 σ5 0 13 (((σ5 0 13) * 6364136223846793005) + 1442695040888963407)) 0 13) % 18446744073709551616 / 8589934592) ≤ 9223372036854775807) ∧
            (vc_X9_passYear (up2 σ5 0 13 (((σ5 0 13) * 6364136223846793005) + 1442695040888963407)) ((((up2 σ5 0 13 (((σ5 0 13) * 6364136223846793005) + 1442695040888963407)) 0 13) % 18446744073709551616 / 8589934592) % 16) (fun (σ9 : GS) =>
              vc_X6_layAll σ9 8 0 (fun (σ10 : GS) =>
              vc_X6_wide σ10  (fun (z11 : Int) =>
              ∃ n' : Nat, n' < n5 ∧ I5 n' (v2_5 + z11) (v3_5 + 1) σ10))))))))))) ∧
    (¬ a0 ≤ 30 →
      (Post (-2) σ)))))
set_option maxHeartbeats 4000000 in
set_option maxRecDepth 10000 in
theorem m_X9_years (l : Launch) {ad : Nat → Nat} {D : va_G} {cI cZ cG : ClassId} (hI : Ij ad) {σ : GS} {a0 : Int} {Post : Int → GS → Prop} (h : vc_X9_years σ a0 Post) : Met l yX9_years (wX yX9_years cX9_years 4 (some .int)) rm_X9_years (va_Pc [.ref (ad 0), .int (iI a0)] (Wd ad D cI cZ cG σ)) (QI ad D cI cZ cG Post) 0 0 (Aw ad) := by
  refine met_V (own := RX9) hI (by decide +kernel) rfl (Nat.le_of_ble_eq_true rfl) ?_
  intro p e s m args below meth c C
  unfold vc_X9_years at h
  show V p l e rm_X9_years s m args below meth c ad D cI cZ cG (Aw ad) 4 0 0 (MQ below (QI ad D cI cZ cG Post) args s 0 0 (Aw ad)) σ 0 [(0, .ref (ad 0)), (1, .int (iI a0))] []
  refine x_iload_n (q := 1) (i := 1) C dX9_years_0 rfl 1 rfl rfl ?_
  refine x_iconst (q := 2) (z := 1) C dX9_years_1 rfl rfl ?_
  obtain ⟨o1, h⟩ := h
  refine x_icmp_lt (q := 5) (tgt := 11) C dX9_years_2 rfl ⟨o1, by decide⟩ rfl (fun c2 => ?_) (fun c2 => ?_)
  · have h := h.1 c2
    refine x_bipush (q := 13) (z := (-2)) C dX9_years_11 rfl rfl ?_
    exact x_iret C dX9_years_13 h
  · have h := h.2 c2
    refine x_iload_n (q := 6) (i := 1) C dX9_years_5 rfl 1 rfl rfl ?_
    refine x_bipush (q := 8) (z := 30) C dX9_years_6 rfl rfl ?_
    refine x_icmp_le (q := 11) (tgt := 14) C dX9_years_8 rfl ⟨o1, by decide⟩ rfl (fun c3 => ?_) (fun c3 => ?_)
    · have h := h.1 c3
      refine x_iconst (q := 15) (z := 0) C dX9_years_14 rfl rfl ?_
      refine x_istore_n (q := 16) (i := 2) (lv' := [(0, .ref (ad 0)), (1, .int (iI a0)), (2, .int (iI 0))]) C dX9_years_15 rfl (Nat.le_of_ble_eq_true rfl) [1, 2, 0] rfl rfl ?_
      refine x_aload_n (q := 17) (i := 0) C dX9_years_16 rfl 0 rfl rfl ?_
      refine x_getR (q := 20) (c0 := 8) C (Nat.le_of_ble_eq_true rfl) ly_0 fk_RX9_32 rfl dX9_years_17 rfl ?_
      refine x_aload_n (q := 21) (i := 0) C dX9_years_20 rfl 0 rfl rfl ?_
      refine x_getR (q := 24) (c0 := 6) C (Nat.le_of_ble_eq_true rfl) ly_0 fk_RX9_28 rfl dX9_years_21 rfl ?_
      refine x_virV (q := 27) C (Nat.le_of_ble_eq_true rfl) ly_8 rfl ck_RX9_221 vk_X2_copyFrom (m_X2_copyFrom l hI h) ⟨⟨rfl, rfl⟩, ⟨Nat.le_of_ble_eq_true rfl, Nat.le_of_ble_eq_true rfl⟩, ⟨Nat.zero_le _, Nat.zero_le _⟩⟩ dX9_years_24 rfl rfl (Nat.le_of_ble_eq_true rfl) rfl (fun σ4 h => ?_)
      refine x_iconst (q := 28) (z := 0) C dX9_years_27 rfl rfl ?_
      refine x_istore_n (q := 29) (i := 3) (lv' := [(0, .ref (ad 0)), (1, .int (iI a0)), (2, .int (iI 0)), (3, .int (iI 0))]) C dX9_years_28 rfl (Nat.le_of_ble_eq_true rfl) [1, 2, 3, 0] rfl rfl ?_
      obtain ⟨I5, ⟨n05, h05⟩, hs5⟩ := h
      have L5 : ∀ (n5 : Nat) (v2_5 : Int) (v3_5 : Int) (σ5 : GS), I5 n5 v2_5 v3_5 σ5 → V p l e rm_X9_years s m args below meth c ad D cI cZ cG (Aw ad) 4 0 0 (MQ below (QI ad D cI cZ cG Post) args s 0 0 (Aw ad)) σ5 29 [(0, .ref (ad 0)), (1, .int (iI a0)), (2, .int (iI v2_5)), (3, .int (iI v3_5))] [] := by
        intro n5
        induction n5 using Nat.strongRecOn with
        | ind n5 ih5 =>
          intro v2_5 v3_5 σ5 h
          have h := hs5 n5 v2_5 v3_5 σ5 h
          refine x_iload_n (q := 30) (i := 3) C dX9_years_29 rfl 3 rfl rfl ?_
          refine x_iload_n (q := 31) (i := 1) C dX9_years_30 rfl 1 rfl rfl ?_
          obtain ⟨o6, h⟩ := h
          refine x_icmp_ge (q := 34) (tgt := 94) C dX9_years_31 rfl ⟨o6, o1⟩ rfl (fun c7 => ?_) (fun c7 => ?_)
          · have h := h.1 c7
            refine x_iload_n (q := 95) (i := 2) C dX9_years_94 rfl 2 rfl rfl ?_
            exact x_iret C dX9_years_95 h
          · have h := h.2 c7
            refine x_aload_n (q := 35) (i := 0) C dX9_years_34 rfl 0 rfl rfl ?_
            refine x_aload_n (q := 36) (i := 0) C dX9_years_35 rfl 0 rfl rfl ?_
            refine x_getL (q := 39) C (Nat.le_of_ble_eq_true rfl) ly_0 fk_RX9_260 rfl dX9_years_36 rfl ?_
            refine x_ldc2 (q := 42) (z := 6364136223846793005) C dX9_years_39 t3_159 rfl rfl ?_
            refine x_lmul (q := 43) C dX9_years_42  rfl ?_
            refine x_ldc2 (q := 46) (z := 1442695040888963407) C dX9_years_43 t3_160 rfl rfl ?_
            refine x_ladd (q := 47) C dX9_years_46  rfl ?_
            refine x_putL (q := 50) C (Nat.le_of_ble_eq_true rfl) ly_0 fk_RX9_260 rfl tyX9 tyX9_ok nmX9 rfl (tyX9_ok 13 (Nat.le_of_ble_eq_true rfl)) dX9_years_47 rfl ?_
            refine x_aload_n (q := 51) (i := 0) C dX9_years_50 rfl 0 rfl rfl ?_
            refine x_aload_n (q := 52) (i := 0) C dX9_years_51 rfl 0 rfl rfl ?_
            refine x_getL (q := 55) C (Nat.le_of_ble_eq_true rfl) ly_0 fk_RX9_260 rfl dX9_years_52 rfl ?_
            refine x_bipush (q := 57) (z := 33) C dX9_years_55 rfl rfl ?_
            refine x_lushr33 (q := 58) C dX9_years_57  rfl ?_
            refine x_ldc2 (q := 61) (z := 16) C dX9_years_58 t3_161 rfl rfl ?_
            obtain ⟨o8, h⟩ := h
            refine x_lrem (q := 62) C dX9_years_61 ⟨o8, by decide⟩ rfl ?_
            refine x_l2i (q := 63) C dX9_years_62  rfl ?_
            refine x_virV (q := 66) C (Nat.le_of_ble_eq_true rfl) ly_0 rfl ck_RX9_270 vk_X9_passYear (m_X9_passYear l hI h) ⟨⟨rfl, rfl⟩, ⟨Nat.le_of_ble_eq_true rfl, Nat.le_of_ble_eq_true rfl⟩, ⟨Nat.zero_le _, Nat.zero_le _⟩⟩ dX9_years_63 rfl rfl (Nat.le_of_ble_eq_true rfl) rfl (fun σ9 h => ?_)
            refine x_aload_n (q := 67) (i := 0) C dX9_years_66 rfl 0 rfl rfl ?_
            refine x_getR (q := 70) (c0 := 10) C (Nat.le_of_ble_eq_true rfl) ly_0 fk_RX9_38 rfl dX9_years_67 rfl ?_
            refine x_aload_n (q := 71) (i := 0) C dX9_years_70 rfl 0 rfl rfl ?_
            refine x_getR (q := 74) (c0 := 8) C (Nat.le_of_ble_eq_true rfl) ly_0 fk_RX9_32 rfl dX9_years_71 rfl ?_
            refine x_iconst (q := 75) (z := 0) C dX9_years_74 rfl rfl ?_
            refine x_virV (q := 78) C (Nat.le_of_ble_eq_true rfl) ly_10 rfl ck_RX9_138 vk_X6_layAll (m_X6_layAll l hI h) ⟨⟨rfl, rfl⟩, ⟨Nat.le_of_ble_eq_true rfl, Nat.le_of_ble_eq_true rfl⟩, ⟨Nat.zero_le _, Nat.zero_le _⟩⟩ dX9_years_75 rfl rfl (Nat.le_of_ble_eq_true rfl) rfl (fun σ10 h => ?_)
            refine x_iload_n (q := 79) (i := 2) C dX9_years_78 rfl 2 rfl rfl ?_
            refine x_aload_n (q := 80) (i := 0) C dX9_years_79 rfl 0 rfl rfl ?_
            refine x_getR (q := 83) (c0 := 10) C (Nat.le_of_ble_eq_true rfl) ly_0 fk_RX9_38 rfl dX9_years_80 rfl ?_
            refine x_virI (q := 86) C (Nat.le_of_ble_eq_true rfl) ly_10 rfl ck_RX9_273 vk_X6_wide (m_X6_wide l hI h) ⟨⟨rfl, rfl⟩, ⟨Nat.le_of_ble_eq_true rfl, Nat.le_of_ble_eq_true rfl⟩, ⟨Nat.zero_le _, Nat.zero_le _⟩⟩ dX9_years_83 rfl rfl (Nat.le_of_ble_eq_true rfl) rfl (fun z11 σ11 h => ?_)
            rw [h.1]
            have h := h.2
            refine x_iadd (q := 87) C dX9_years_86  rfl ?_
            refine x_istore_n (q := 88) (i := 2) (lv' := [(0, .ref (ad 0)), (1, .int (iI a0)), (2, .int (iI (v2_5 + z11))), (3, .int (iI v3_5))]) C dX9_years_87 rfl (Nat.le_of_ble_eq_true rfl) [1, 2, 0, 3] rfl rfl ?_
            refine x_iinc (q := 91) (z' := v3_5 + 1) (lv' := [(0, .ref (ad 0)), (1, .int (iI a0)), (2, .int (iI (v2_5 + z11))), (3, .int (iI (v3_5 + 1)))]) C dX9_years_88 3 rfl rfl (Nat.le_of_ble_eq_true rfl) [1, 2, 3, 0] rfl rfl ?_
            refine x_goto (tgt := 29) C dX9_years_91 rfl ?_
            obtain ⟨n12, hl13, h⟩ := h
            refine x_sub [0, 1, 2, 3] rfl ?_
            exact ih5 n12 hl13 _ _ _ h
      exact L5 n05 0 0 σ4 h05
    · have h := h.2 c3
      refine x_bipush (q := 13) (z := (-2)) C dX9_years_11 rfl rfl ?_
      exact x_iret C dX9_years_13 h
abbrev rm_X9_keep : Room := { frames := 3, cells := 0, slots := 0, locals := 69 }
def vc_X9_keep (σ : GS) (a0 : Int) (Post : Int → GS → Prop) : Prop :=
  vc_X4_store σ a0 6 (fun (z1 : Int) (σ1 : GS) =>
    (rg z1) ∧
  ((z1 = 0 →
    (Post (-1) σ1)) ∧
  (¬ z1 = 0 →
    (vc_X2_sum σ1 6 (fun (z4 : Int) =>
      Post z4 σ1)))))
set_option maxHeartbeats 4000000 in
set_option maxRecDepth 10000 in
theorem m_X9_keep (l : Launch) {ad : Nat → Nat} {D : va_G} {cI cZ cG : ClassId} (hI : Ij ad) {σ : GS} {a0 : Int} {Post : Int → GS → Prop} (h : vc_X9_keep σ a0 Post) : Met l yX9_keep (wX yX9_keep cX9_keep 2 (some .int)) rm_X9_keep (va_Pc [.ref (ad 0), .int (iI a0)] (Wd ad D cI cZ cG σ)) (QI ad D cI cZ cG Post) 0 0 (Aw ad) := by
  refine met_V (own := RX9) hI (by decide +kernel) rfl (Nat.le_of_ble_eq_true rfl) ?_
  intro p e s m args below meth c C
  unfold vc_X9_keep at h
  show V p l e rm_X9_keep s m args below meth c ad D cI cZ cG (Aw ad) 2 0 0 (MQ below (QI ad D cI cZ cG Post) args s 0 0 (Aw ad)) σ 0 [(0, .ref (ad 0)), (1, .int (iI a0))] []
  refine x_aload_n (q := 1) (i := 0) C dX9_keep_0 rfl 0 rfl rfl ?_
  refine x_getR (q := 4) (c0 := 39) C (Nat.le_of_ble_eq_true rfl) ly_0 fk_RX9_68 rfl dX9_keep_1 rfl ?_
  refine x_iload_n (q := 5) (i := 1) C dX9_keep_4 rfl 1 rfl rfl ?_
  refine x_aload_n (q := 6) (i := 0) C dX9_keep_5 rfl 0 rfl rfl ?_
  refine x_getR (q := 9) (c0 := 6) C (Nat.le_of_ble_eq_true rfl) ly_0 fk_RX9_28 rfl dX9_keep_6 rfl ?_
  refine x_virI (q := 12) C (Nat.le_of_ble_eq_true rfl) ly_39 rfl ck_RX9_276 vk_X4_store (m_X4_store l hI h) ⟨⟨rfl, rfl⟩, ⟨Nat.le_of_ble_eq_true rfl, Nat.le_of_ble_eq_true rfl⟩, ⟨Nat.zero_le _, Nat.zero_le _⟩⟩ dX9_keep_9 rfl rfl (Nat.le_of_ble_eq_true rfl) rfl (fun z1 σ1 h => ?_)
  obtain ⟨o2, h⟩ := h
  refine x_if_eq (q := 15) (tgt := 25) C dX9_keep_12 rfl o2 rfl (fun c3 => ?_) (fun c3 => ?_)
  · have h := h.1 c3
    refine x_iconst (q := 26) (z := (-1)) C dX9_keep_25 rfl rfl ?_
    exact x_iret C dX9_keep_26 h
  · have h := h.2 c3
    refine x_aload_n (q := 16) (i := 0) C dX9_keep_15 rfl 0 rfl rfl ?_
    refine x_getR (q := 19) (c0 := 6) C (Nat.le_of_ble_eq_true rfl) ly_0 fk_RX9_28 rfl dX9_keep_16 rfl ?_
    refine x_virI (q := 22) C (Nat.le_of_ble_eq_true rfl) ly_6 rfl ck_RX9_182 vk_X2_sum (m_X2_sum l hI h) ⟨⟨rfl, rfl⟩, ⟨Nat.le_of_ble_eq_true rfl, Nat.le_of_ble_eq_true rfl⟩, ⟨Nat.zero_le _, Nat.zero_le _⟩⟩ dX9_keep_19 rfl rfl (Nat.le_of_ble_eq_true rfl) rfl (fun z4 σ4 h => ?_)
    rw [h.1]
    have h := h.2
    refine x_goto (tgt := 26) C dX9_keep_22 rfl ?_
    exact x_iret C dX9_keep_26 h
abbrev rm_X9_again : Room := { frames := 3, cells := 0, slots := 0, locals := 69 }
def vc_X9_again (σ : GS) (a0 : Int) (Post : Int → GS → Prop) : Prop :=
  vc_X4_has σ a0 (fun (z1 : Int) =>
    (rg z1) ∧
  ((¬ z1 = 0 →
    (vc_X4_restore σ a0 6 (fun (z4 : Int) (σ4 : GS) =>
      (rg z4) ∧
    ((¬ z4 = 0 →
      (vc_X0_clear σ4  (fun (σ7 : GS) =>
        vc_X2_sum σ7 6 (fun (z8 : Int) =>
        Post z8 σ7)))) ∧
    (z4 = 0 →
      (Post (-3) σ4)))))) ∧
  (z1 = 0 →
    (Post (-1) σ))))
set_option maxHeartbeats 4000000 in
set_option maxRecDepth 10000 in
theorem m_X9_again (l : Launch) {ad : Nat → Nat} {D : va_G} {cI cZ cG : ClassId} (hI : Ij ad) {σ : GS} {a0 : Int} {Post : Int → GS → Prop} (h : vc_X9_again σ a0 Post) : Met l yX9_again (wX yX9_again cX9_again 2 (some .int)) rm_X9_again (va_Pc [.ref (ad 0), .int (iI a0)] (Wd ad D cI cZ cG σ)) (QI ad D cI cZ cG Post) 0 0 (Aw ad) := by
  refine met_V (own := RX9) hI (by decide +kernel) rfl (Nat.le_of_ble_eq_true rfl) ?_
  intro p e s m args below meth c C
  unfold vc_X9_again at h
  show V p l e rm_X9_again s m args below meth c ad D cI cZ cG (Aw ad) 2 0 0 (MQ below (QI ad D cI cZ cG Post) args s 0 0 (Aw ad)) σ 0 [(0, .ref (ad 0)), (1, .int (iI a0))] []
  refine x_aload_n (q := 1) (i := 0) C dX9_again_0 rfl 0 rfl rfl ?_
  refine x_getR (q := 4) (c0 := 39) C (Nat.le_of_ble_eq_true rfl) ly_0 fk_RX9_68 rfl dX9_again_1 rfl ?_
  refine x_iload_n (q := 5) (i := 1) C dX9_again_4 rfl 1 rfl rfl ?_
  refine x_virI (q := 8) C (Nat.le_of_ble_eq_true rfl) ly_39 rfl ck_RX9_280 vk_X4_has (m_X4_has l hI h) ⟨⟨rfl, rfl⟩, ⟨Nat.le_of_ble_eq_true rfl, Nat.le_of_ble_eq_true rfl⟩, ⟨Nat.zero_le _, Nat.zero_le _⟩⟩ dX9_again_5 rfl rfl (Nat.le_of_ble_eq_true rfl) rfl (fun z1 σ1 h => ?_)
  rw [h.1]
  have h := h.2
  obtain ⟨o2, h⟩ := h
  refine x_if_ne (q := 11) (tgt := 13) C dX9_again_8 rfl o2 rfl (fun c3 => ?_) (fun c3 => ?_)
  · have h := h.1 c3
    refine x_aload_n (q := 14) (i := 0) C dX9_again_13 rfl 0 rfl rfl ?_
    refine x_getR (q := 17) (c0 := 39) C (Nat.le_of_ble_eq_true rfl) ly_0 fk_RX9_68 rfl dX9_again_14 rfl ?_
    refine x_iload_n (q := 18) (i := 1) C dX9_again_17 rfl 1 rfl rfl ?_
    refine x_aload_n (q := 19) (i := 0) C dX9_again_18 rfl 0 rfl rfl ?_
    refine x_getR (q := 22) (c0 := 6) C (Nat.le_of_ble_eq_true rfl) ly_0 fk_RX9_28 rfl dX9_again_19 rfl ?_
    refine x_virI (q := 25) C (Nat.le_of_ble_eq_true rfl) ly_39 rfl ck_RX9_281 vk_X4_restore (m_X4_restore l hI h) ⟨⟨rfl, rfl⟩, ⟨Nat.le_of_ble_eq_true rfl, Nat.le_of_ble_eq_true rfl⟩, ⟨Nat.zero_le _, Nat.zero_le _⟩⟩ dX9_again_22 rfl rfl (Nat.le_of_ble_eq_true rfl) rfl (fun z4 σ4 h => ?_)
    obtain ⟨o5, h⟩ := h
    refine x_if_ne (q := 28) (tgt := 31) C dX9_again_25 rfl o5 rfl (fun c6 => ?_) (fun c6 => ?_)
    · have h := h.1 c6
      refine x_aload_n (q := 32) (i := 0) C dX9_again_31 rfl 0 rfl rfl ?_
      refine x_getR (q := 35) (c0 := 23) C (Nat.le_of_ble_eq_true rfl) ly_0 fk_RX9_61 rfl dX9_again_32 rfl ?_
      refine x_virV (q := 38) C (Nat.le_of_ble_eq_true rfl) ly_23 rfl ck_RX9_108 vk_X0_clear (m_X0_clear l hI h) ⟨⟨rfl, rfl⟩, ⟨Nat.le_of_ble_eq_true rfl, Nat.le_of_ble_eq_true rfl⟩, ⟨Nat.zero_le _, Nat.zero_le _⟩⟩ dX9_again_35 rfl rfl (Nat.le_of_ble_eq_true rfl) rfl (fun σ7 h => ?_)
      refine x_aload_n (q := 39) (i := 0) C dX9_again_38 rfl 0 rfl rfl ?_
      refine x_getR (q := 42) (c0 := 6) C (Nat.le_of_ble_eq_true rfl) ly_0 fk_RX9_28 rfl dX9_again_39 rfl ?_
      refine x_virI (q := 45) C (Nat.le_of_ble_eq_true rfl) ly_6 rfl ck_RX9_182 vk_X2_sum (m_X2_sum l hI h) ⟨⟨rfl, rfl⟩, ⟨Nat.le_of_ble_eq_true rfl, Nat.le_of_ble_eq_true rfl⟩, ⟨Nat.zero_le _, Nat.zero_le _⟩⟩ dX9_again_42 rfl rfl (Nat.le_of_ble_eq_true rfl) rfl (fun z8 σ8 h => ?_)
      rw [h.1]
      have h := h.2
      exact x_iret C dX9_again_45 h
    · have h := h.2 c6
      refine x_bipush (q := 30) (z := (-3)) C dX9_again_28 rfl rfl ?_
      exact x_iret C dX9_again_30 h
  · have h := h.2 c3
    refine x_iconst (q := 12) (z := (-1)) C dX9_again_11 rfl rfl ?_
    exact x_iret C dX9_again_12 h
abbrev rm_X9_count : Room := { frames := 4, cells := 0, slots := 0, locals := 93 }
def vc_X9_count (σ : GS) (a0 : Int) (Post : Int → GS → Prop) : Prop :=
  (rg a0) ∧
  ((a0 < 0 ∨ 8 < a0 →
    (Post (-2) σ)) ∧
  (a0 = 0 →
    (vc_X3_length σ  (fun (z2 : Int) =>
        Post z2 σ))) ∧
  (a0 = 1 →
    (vc_X1_size σ  (fun (z3 : Int) =>
        Post z3 σ))) ∧
  (a0 = 2 →
    (vc_X6_layAll σ 6 0 (fun (σ4 : GS) =>
        vc_X6_wide σ4  (fun (z5 : Int) =>
        Post z5 σ4)))) ∧
  (a0 = 3 →
    (vc_X6_layAll σ 6 0 (fun (σ6 : GS) =>
        vc_X6_placesSeen σ6  (fun (z7 : Int) =>
        Post z7 σ6)))) ∧
  (a0 = 4 →
    (vc_X2_figures σ 6 (fun (z8 : Int) =>
        Post z8 σ))) ∧
  (a0 = 5 →
    (vc_X2_sum σ 6 (fun (z9 : Int) =>
        Post z9 σ))) ∧
  (a0 = 6 →
    (vc_X8_length σ  (fun (z10 : Int) =>
        Post z10 σ))) ∧
  (a0 = 7 →
    (vc_X0_size σ  (fun (z11 : Int) =>
        Post z11 σ))) ∧
  (a0 = 8 →
    (vc_X5_size σ  (fun (z12 : Int) =>
        Post z12 σ))))
set_option maxHeartbeats 4000000 in
set_option maxRecDepth 10000 in
theorem m_X9_count (l : Launch) {ad : Nat → Nat} {D : va_G} {cI cZ cG : ClassId} (hI : Ij ad) {σ : GS} {a0 : Int} {Post : Int → GS → Prop} (h : vc_X9_count σ a0 Post) : Met l yX9_count (wX yX9_count cX9_count 2 (some .int)) rm_X9_count (va_Pc [.ref (ad 0), .int (iI a0)] (Wd ad D cI cZ cG σ)) (QI ad D cI cZ cG Post) 0 0 (Aw ad) := by
  refine met_V (own := RX9) hI (by decide +kernel) rfl (Nat.le_of_ble_eq_true rfl) ?_
  intro p e s m args below meth c C
  unfold vc_X9_count at h
  show V p l e rm_X9_count s m args below meth c ad D cI cZ cG (Aw ad) 2 0 0 (MQ below (QI ad D cI cZ cG Post) args s 0 0 (Aw ad)) σ 0 [(0, .ref (ad 0)), (1, .int (iI a0))] []
  refine x_iload_n (q := 1) (i := 1) C dX9_count_0 rfl 1 rfl rfl ?_
  obtain ⟨o1, h⟩ := h
  refine x_table C dX9_count_1 o1 148 rfl [52, 60, 68, 88, 108, 116, 124, 132, 140] rfl rfl (fun c0 => ?_) (fun i t ht ha => ?_)
  · have h := h.1 c0
    refine x_bipush (q := 150) (z := (-2)) C dX9_count_148 rfl rfl ?_
    exact x_iret C dX9_count_150 h
  · rcases i with _ | _ | _ | _ | _ | _ | _ | _ | _ | i
    · cases ht
      have h := h.2.1 (by omega)
      refine x_aload_n (q := 53) (i := 0) C dX9_count_52 rfl 0 rfl rfl ?_
      refine x_getR (q := 56) (c0 := 1) C (Nat.le_of_ble_eq_true rfl) ly_0 fk_RX9_12 rfl dX9_count_53 rfl ?_
      refine x_virI (q := 59) C (Nat.le_of_ble_eq_true rfl) ly_1 rfl ck_RX9_93 vk_X3_length (m_X3_length l hI h) ⟨⟨rfl, rfl⟩, ⟨Nat.le_of_ble_eq_true rfl, Nat.le_of_ble_eq_true rfl⟩, ⟨Nat.zero_le _, Nat.zero_le _⟩⟩ dX9_count_56 rfl rfl (Nat.le_of_ble_eq_true rfl) rfl (fun z2 σ2 h => ?_)
      rw [h.1]
      have h := h.2
      exact x_iret C dX9_count_59 h
    · cases ht
      have h := h.2.2.1 (by omega)
      refine x_aload_n (q := 61) (i := 0) C dX9_count_60 rfl 0 rfl rfl ?_
      refine x_getR (q := 64) (c0 := 3) C (Nat.le_of_ble_eq_true rfl) ly_0 fk_RX9_19 rfl dX9_count_61 rfl ?_
      refine x_virI (q := 67) C (Nat.le_of_ble_eq_true rfl) ly_3 rfl ck_RX9_110 vk_X1_size (m_X1_size l hI h) ⟨⟨rfl, rfl⟩, ⟨Nat.le_of_ble_eq_true rfl, Nat.le_of_ble_eq_true rfl⟩, ⟨Nat.zero_le _, Nat.zero_le _⟩⟩ dX9_count_64 rfl rfl (Nat.le_of_ble_eq_true rfl) rfl (fun z3 σ3 h => ?_)
      rw [h.1]
      have h := h.2
      exact x_iret C dX9_count_67 h
    · cases ht
      have h := h.2.2.2.1 (by omega)
      refine x_aload_n (q := 69) (i := 0) C dX9_count_68 rfl 0 rfl rfl ?_
      refine x_getR (q := 72) (c0 := 10) C (Nat.le_of_ble_eq_true rfl) ly_0 fk_RX9_38 rfl dX9_count_69 rfl ?_
      refine x_aload_n (q := 73) (i := 0) C dX9_count_72 rfl 0 rfl rfl ?_
      refine x_getR (q := 76) (c0 := 6) C (Nat.le_of_ble_eq_true rfl) ly_0 fk_RX9_28 rfl dX9_count_73 rfl ?_
      refine x_iconst (q := 77) (z := 0) C dX9_count_76 rfl rfl ?_
      refine x_virV (q := 80) C (Nat.le_of_ble_eq_true rfl) ly_10 rfl ck_RX9_138 vk_X6_layAll (m_X6_layAll l hI h) ⟨⟨rfl, rfl⟩, ⟨Nat.le_of_ble_eq_true rfl, Nat.le_of_ble_eq_true rfl⟩, ⟨Nat.zero_le _, Nat.zero_le _⟩⟩ dX9_count_77 rfl rfl (Nat.le_of_ble_eq_true rfl) rfl (fun σ4 h => ?_)
      refine x_aload_n (q := 81) (i := 0) C dX9_count_80 rfl 0 rfl rfl ?_
      refine x_getR (q := 84) (c0 := 10) C (Nat.le_of_ble_eq_true rfl) ly_0 fk_RX9_38 rfl dX9_count_81 rfl ?_
      refine x_virI (q := 87) C (Nat.le_of_ble_eq_true rfl) ly_10 rfl ck_RX9_273 vk_X6_wide (m_X6_wide l hI h) ⟨⟨rfl, rfl⟩, ⟨Nat.le_of_ble_eq_true rfl, Nat.le_of_ble_eq_true rfl⟩, ⟨Nat.zero_le _, Nat.zero_le _⟩⟩ dX9_count_84 rfl rfl (Nat.le_of_ble_eq_true rfl) rfl (fun z5 σ5 h => ?_)
      rw [h.1]
      have h := h.2
      exact x_iret C dX9_count_87 h
    · cases ht
      have h := h.2.2.2.2.1 (by omega)
      refine x_aload_n (q := 89) (i := 0) C dX9_count_88 rfl 0 rfl rfl ?_
      refine x_getR (q := 92) (c0 := 10) C (Nat.le_of_ble_eq_true rfl) ly_0 fk_RX9_38 rfl dX9_count_89 rfl ?_
      refine x_aload_n (q := 93) (i := 0) C dX9_count_92 rfl 0 rfl rfl ?_
      refine x_getR (q := 96) (c0 := 6) C (Nat.le_of_ble_eq_true rfl) ly_0 fk_RX9_28 rfl dX9_count_93 rfl ?_
      refine x_iconst (q := 97) (z := 0) C dX9_count_96 rfl rfl ?_
      refine x_virV (q := 100) C (Nat.le_of_ble_eq_true rfl) ly_10 rfl ck_RX9_138 vk_X6_layAll (m_X6_layAll l hI h) ⟨⟨rfl, rfl⟩, ⟨Nat.le_of_ble_eq_true rfl, Nat.le_of_ble_eq_true rfl⟩, ⟨Nat.zero_le _, Nat.zero_le _⟩⟩ dX9_count_97 rfl rfl (Nat.le_of_ble_eq_true rfl) rfl (fun σ6 h => ?_)
      refine x_aload_n (q := 101) (i := 0) C dX9_count_100 rfl 0 rfl rfl ?_
      refine x_getR (q := 104) (c0 := 10) C (Nat.le_of_ble_eq_true rfl) ly_0 fk_RX9_38 rfl dX9_count_101 rfl ?_
      refine x_virI (q := 107) C (Nat.le_of_ble_eq_true rfl) ly_10 rfl ck_RX9_284 vk_X6_placesSeen (m_X6_placesSeen l hI h) ⟨⟨rfl, rfl⟩, ⟨Nat.le_of_ble_eq_true rfl, Nat.le_of_ble_eq_true rfl⟩, ⟨Nat.zero_le _, Nat.zero_le _⟩⟩ dX9_count_104 rfl rfl (Nat.le_of_ble_eq_true rfl) rfl (fun z7 σ7 h => ?_)
      rw [h.1]
      have h := h.2
      exact x_iret C dX9_count_107 h
    · cases ht
      have h := h.2.2.2.2.2.1 (by omega)
      refine x_aload_n (q := 109) (i := 0) C dX9_count_108 rfl 0 rfl rfl ?_
      refine x_getR (q := 112) (c0 := 6) C (Nat.le_of_ble_eq_true rfl) ly_0 fk_RX9_28 rfl dX9_count_109 rfl ?_
      refine x_virI (q := 115) C (Nat.le_of_ble_eq_true rfl) ly_6 rfl ck_RX9_206 vk_X2_figures (m_X2_figures l hI h) ⟨⟨rfl, rfl⟩, ⟨Nat.le_of_ble_eq_true rfl, Nat.le_of_ble_eq_true rfl⟩, ⟨Nat.zero_le _, Nat.zero_le _⟩⟩ dX9_count_112 rfl rfl (Nat.le_of_ble_eq_true rfl) rfl (fun z8 σ8 h => ?_)
      rw [h.1]
      have h := h.2
      exact x_iret C dX9_count_115 h
    · cases ht
      have h := h.2.2.2.2.2.2.1 (by omega)
      refine x_aload_n (q := 117) (i := 0) C dX9_count_116 rfl 0 rfl rfl ?_
      refine x_getR (q := 120) (c0 := 6) C (Nat.le_of_ble_eq_true rfl) ly_0 fk_RX9_28 rfl dX9_count_117 rfl ?_
      refine x_virI (q := 123) C (Nat.le_of_ble_eq_true rfl) ly_6 rfl ck_RX9_182 vk_X2_sum (m_X2_sum l hI h) ⟨⟨rfl, rfl⟩, ⟨Nat.le_of_ble_eq_true rfl, Nat.le_of_ble_eq_true rfl⟩, ⟨Nat.zero_le _, Nat.zero_le _⟩⟩ dX9_count_120 rfl rfl (Nat.le_of_ble_eq_true rfl) rfl (fun z9 σ9 h => ?_)
      rw [h.1]
      have h := h.2
      exact x_iret C dX9_count_123 h
    · cases ht
      have h := h.2.2.2.2.2.2.2.1 (by omega)
      refine x_aload_n (q := 125) (i := 0) C dX9_count_124 rfl 0 rfl rfl ?_
      refine x_getR (q := 128) (c0 := 21) C (Nat.le_of_ble_eq_true rfl) ly_0 fk_RX9_54 rfl dX9_count_125 rfl ?_
      refine x_virI (q := 131) C (Nat.le_of_ble_eq_true rfl) ly_21 rfl ck_RX9_121 vk_X8_length (m_X8_length l hI h) ⟨⟨rfl, rfl⟩, ⟨Nat.le_of_ble_eq_true rfl, Nat.le_of_ble_eq_true rfl⟩, ⟨Nat.zero_le _, Nat.zero_le _⟩⟩ dX9_count_128 rfl rfl (Nat.le_of_ble_eq_true rfl) rfl (fun z10 σ10 h => ?_)
      rw [h.1]
      have h := h.2
      exact x_iret C dX9_count_131 h
    · cases ht
      have h := h.2.2.2.2.2.2.2.2.1 (by omega)
      refine x_aload_n (q := 133) (i := 0) C dX9_count_132 rfl 0 rfl rfl ?_
      refine x_getR (q := 136) (c0 := 23) C (Nat.le_of_ble_eq_true rfl) ly_0 fk_RX9_61 rfl dX9_count_133 rfl ?_
      refine x_virI (q := 139) C (Nat.le_of_ble_eq_true rfl) ly_23 rfl ck_RX9_189 vk_X0_size (m_X0_size l hI h) ⟨⟨rfl, rfl⟩, ⟨Nat.le_of_ble_eq_true rfl, Nat.le_of_ble_eq_true rfl⟩, ⟨Nat.zero_le _, Nat.zero_le _⟩⟩ dX9_count_136 rfl rfl (Nat.le_of_ble_eq_true rfl) rfl (fun z11 σ11 h => ?_)
      rw [h.1]
      have h := h.2
      exact x_iret C dX9_count_139 h
    · cases ht
      have h := h.2.2.2.2.2.2.2.2.2 (by omega)
      refine x_aload_n (q := 141) (i := 0) C dX9_count_140 rfl 0 rfl rfl ?_
      refine x_getR (q := 144) (c0 := 44) C (Nat.le_of_ble_eq_true rfl) ly_0 fk_RX9_75 rfl dX9_count_141 rfl ?_
      refine x_virI (q := 147) C (Nat.le_of_ble_eq_true rfl) ly_44 rfl ck_RX9_232 vk_X5_size (m_X5_size l hI h) ⟨⟨rfl, rfl⟩, ⟨Nat.le_of_ble_eq_true rfl, Nat.le_of_ble_eq_true rfl⟩, ⟨Nat.zero_le _, Nat.zero_le _⟩⟩ dX9_count_144 rfl rfl (Nat.le_of_ble_eq_true rfl) rfl (fun z12 σ12 h => ?_)
      rw [h.1]
      have h := h.2
      exact x_iret C dX9_count_147 h
    · simp at ht
