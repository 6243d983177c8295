abbrev rm_X10_letterAt : Room := { frames := 3, cells := 0, slots := 0, locals := 76 }
def vc_X10_letterAt (σ : GS) (a0 : Int) (a1 : Int) (a2 : Int) (a3 : Int) (Post : Int → Prop) : Prop :=
  (rg a2) ∧
  (vc_X10_in σ a2 0 27 (fun (z2 : Int) =>
    (rg z2) ∧
  ((z2 = 0 →
    ((¬ (-9 : Int) = (-9) →
      (vc_X10_cellAt σ a0 (-9) a2 (fun (z6 : Int) =>
        (0 ≤ (((8 * (-9)) + (4 * a3)) + z6) ∧ (((8 * (-9)) + (4 * a3)) + z6) < 48) ∧
      (Post (σ 53 (((8 * (-9)) + (4 * a3)) + z6).toNat))))) ∧
    ((-9 : Int) = (-9) →
      (Post (-9))))) ∧
  (¬ z2 = 0 →
    (vc_X10_bladeAt σ a0 a1 a2 a3 (fun (z8 : Int) =>
      (rg z8) ∧
    ((¬ z8 = (-9) →
      (vc_X10_cellAt σ a0 z8 a2 (fun (z11 : Int) =>
        (0 ≤ (((8 * z8) + (4 * a3)) + z11) ∧ (((8 * z8) + (4 * a3)) + z11) < 48) ∧
      (Post (σ 53 (((8 * z8) + (4 * a3)) + z11).toNat))))) ∧
    (z8 = (-9) →
      (Post (-9))))))))))
set_option maxHeartbeats 4000000 in
set_option maxRecDepth 10000 in
theorem m_X10_letterAt (l : Launch) {ad : Nat → Nat} {D : va_G} {cI cZ cG : ClassId} (hI : Ij ad) {σ : GS} {a0 : Int} {a1 : Int} {a2 : Int} {a3 : Int} {Post : Int → Prop} (h : vc_X10_letterAt σ a0 a1 a2 a3 Post) : Met l yX10_letterAt (wX yX10_letterAt cX10_letterAt 6 (some .int)) rm_X10_letterAt (va_Pc [.ref (ad 51), .int (iI a0), .int (iI a1), .int (iI a2), .int (iI a3)] (Wd ad D cI cZ cG σ)) (QI ad D cI cZ cG (fun z u => u = σ ∧ Post z)) 0 0 (Aw ad) := by
  refine met_V (own := RX10) hI (by decide +kernel) rfl (Nat.le_of_ble_eq_true rfl) ?_
  intro p e s m args below meth c C
  unfold vc_X10_letterAt at h
  show V p l e rm_X10_letterAt s m args below meth c ad D cI cZ cG (Aw ad) 6 0 0 (MQ below (QI ad D cI cZ cG (fun z u => u = σ ∧ Post z)) args s 0 0 (Aw ad)) σ 0 [(0, .ref (ad 51)), (1, .int (iI a0)), (2, .int (iI a1)), (3, .int (iI a2)), (4, .int (iI a3))] []
  refine x_iload_n (q := 1) (i := 3) C dX10_letterAt_0 rfl 3 rfl rfl ?_
  obtain ⟨o1, h⟩ := h
  refine x_i2l (q := 2) C dX10_letterAt_1 o1 rfl ?_
  refine x_lconst (q := 3) (z := 0) C dX10_letterAt_2 rfl rfl ?_
  refine x_ldc2 (q := 6) (z := 27) C dX10_letterAt_3 t4_108 rfl rfl ?_
  refine x_staI (q := 9) C ck_RX10_52 t4_33 (m_X10_in l hI h) ⟨⟨rfl, rfl⟩, ⟨Nat.le_of_ble_eq_true rfl, Nat.le_of_ble_eq_true rfl⟩, ⟨Nat.zero_le _, Nat.zero_le _⟩⟩ dX10_letterAt_6 rfl rfl (Nat.le_of_ble_eq_true rfl) rfl (fun z2 σ2 h => ?_)
  rw [h.1]
  have h := h.2
  obtain ⟨o3, h⟩ := h
  refine x_if_eq (q := 12) (tgt := 24) C dX10_letterAt_9 rfl o3 rfl (fun c4 => ?_) (fun c4 => ?_)
  · have h := h.1 c4
    refine x_bipush (q := 26) (z := (-9)) C dX10_letterAt_24 rfl rfl ?_
    refine x_istore (q := 28) (i := 5) (lv' := [(0, .ref (ad 51)), (1, .int (iI a0)), (2, .int (iI a1)), (3, .int (iI a2)), (4, .int (iI a3)), (5, .int (iI (-9)))]) C dX10_letterAt_26 (Nat.le_of_ble_eq_true rfl) [1, 2, 3, 4, 5, 0] rfl rfl ?_
    refine x_iload (q := 30) C dX10_letterAt_28 5 rfl rfl ?_
    refine x_bipush (q := 32) (z := (-9)) C dX10_letterAt_30 rfl rfl ?_
    refine x_icmp_ne (q := 35) (tgt := 40) C dX10_letterAt_32 rfl ⟨by decide, by decide⟩ rfl (fun c5 => ?_) (fun c5 => ?_)
    · have h := h.1 c5
      refine x_aload_n (q := 41) (i := 0) C dX10_letterAt_40 rfl 0 rfl rfl ?_
      refine x_getR (q := 44) (c0 := 53) C (Nat.le_of_ble_eq_true rfl) ly_51 fk_RX10_13 rfl dX10_letterAt_41 rfl ?_
      refine x_bipush (q := 46) (z := 8) C dX10_letterAt_44 rfl rfl ?_
      refine x_iload (q := 48) C dX10_letterAt_46 5 rfl rfl ?_
      refine x_imul (q := 49) C dX10_letterAt_48  rfl ?_
      refine x_iconst (q := 50) (z := 4) C dX10_letterAt_49 rfl rfl ?_
      refine x_iload (q := 52) C dX10_letterAt_50 4 rfl rfl ?_
      refine x_imul (q := 53) C dX10_letterAt_52  rfl ?_
      refine x_iadd (q := 54) C dX10_letterAt_53  rfl ?_
      refine x_aload_n (q := 55) (i := 0) C dX10_letterAt_54 rfl 0 rfl rfl ?_
      refine x_iload_n (q := 56) (i := 1) C dX10_letterAt_55 rfl 1 rfl rfl ?_
      refine x_iload (q := 58) C dX10_letterAt_56 5 rfl rfl ?_
      refine x_iload_n (q := 59) (i := 3) C dX10_letterAt_58 rfl 3 rfl rfl ?_
      refine x_virI (q := 62) C (Nat.le_of_ble_eq_true rfl) ly_51 rfl ck_RX10_109 vk_X10_cellAt (m_X10_cellAt l hI h) ⟨⟨rfl, rfl⟩, ⟨Nat.le_of_ble_eq_true rfl, Nat.le_of_ble_eq_true rfl⟩, ⟨Nat.zero_le _, Nat.zero_le _⟩⟩ dX10_letterAt_59 rfl rfl (Nat.le_of_ble_eq_true rfl) rfl (fun z6 σ6 h => ?_)
      rw [h.1]
      have h := h.2
      refine x_iadd (q := 63) C dX10_letterAt_62  rfl ?_
      obtain ⟨o7, h⟩ := h
      refine x_iald (q := 64) C (Nat.le_of_ble_eq_true rfl) ly_53 dX10_letterAt_63 (ix o7 rfl) (Nat.le_of_ble_eq_true rfl) rfl ?_
      exact x_iret C dX10_letterAt_64 ⟨rfl, h⟩
    · have h := h.2 c5
      refine x_bipush (q := 37) (z := (-9)) C dX10_letterAt_35 rfl rfl ?_
      refine x_goto (tgt := 64) C dX10_letterAt_37 rfl ?_
      exact x_iret C dX10_letterAt_64 ⟨rfl, h⟩
  · have h := h.2 c4
    refine x_aload_n (q := 13) (i := 0) C dX10_letterAt_12 rfl 0 rfl rfl ?_
    refine x_iload_n (q := 14) (i := 1) C dX10_letterAt_13 rfl 1 rfl rfl ?_
    refine x_iload_n (q := 15) (i := 2) C dX10_letterAt_14 rfl 2 rfl rfl ?_
    refine x_iload_n (q := 16) (i := 3) C dX10_letterAt_15 rfl 3 rfl rfl ?_
    refine x_iload (q := 18) C dX10_letterAt_16 4 rfl rfl ?_
    refine x_virI (q := 21) C (Nat.le_of_ble_eq_true rfl) ly_51 rfl ck_RX10_115 vk_X10_bladeAt (m_X10_bladeAt l hI h) ⟨⟨rfl, rfl⟩, ⟨Nat.le_of_ble_eq_true rfl, Nat.le_of_ble_eq_true rfl⟩, ⟨Nat.zero_le _, Nat.zero_le _⟩⟩ dX10_letterAt_18 rfl rfl (Nat.le_of_ble_eq_true rfl) rfl (fun z8 σ8 h => ?_)
    rw [h.1]
    have h := h.2
    refine x_goto (tgt := 26) C dX10_letterAt_21 rfl ?_
    refine x_istore (q := 28) (i := 5) (lv' := [(0, .ref (ad 51)), (1, .int (iI a0)), (2, .int (iI a1)), (3, .int (iI a2)), (4, .int (iI a3)), (5, .int (iI z8))]) C dX10_letterAt_26 (Nat.le_of_ble_eq_true rfl) [1, 2, 3, 4, 5, 0] rfl rfl ?_
    refine x_iload (q := 30) C dX10_letterAt_28 5 rfl rfl ?_
    refine x_bipush (q := 32) (z := (-9)) C dX10_letterAt_30 rfl rfl ?_
    obtain ⟨o9, h⟩ := h
    refine x_icmp_ne (q := 35) (tgt := 40) C dX10_letterAt_32 rfl ⟨o9, by decide⟩ rfl (fun c10 => ?_) (fun c10 => ?_)
    · have h := h.1 c10
      refine x_aload_n (q := 41) (i := 0) C dX10_letterAt_40 rfl 0 rfl rfl ?_
      refine x_getR (q := 44) (c0 := 53) C (Nat.le_of_ble_eq_true rfl) ly_51 fk_RX10_13 rfl dX10_letterAt_41 rfl ?_
      refine x_bipush (q := 46) (z := 8) C dX10_letterAt_44 rfl rfl ?_
      refine x_iload (q := 48) C dX10_letterAt_46 5 rfl rfl ?_
      refine x_imul (q := 49) C dX10_letterAt_48  rfl ?_
      refine x_iconst (q := 50) (z := 4) C dX10_letterAt_49 rfl rfl ?_
      refine x_iload (q := 52) C dX10_letterAt_50 4 rfl rfl ?_
      refine x_imul (q := 53) C dX10_letterAt_52  rfl ?_
      refine x_iadd (q := 54) C dX10_letterAt_53  rfl ?_
      refine x_aload_n (q := 55) (i := 0) C dX10_letterAt_54 rfl 0 rfl rfl ?_
      refine x_iload_n (q := 56) (i := 1) C dX10_letterAt_55 rfl 1 rfl rfl ?_
      refine x_iload (q := 58) C dX10_letterAt_56 5 rfl rfl ?_
      refine x_iload_n (q := 59) (i := 3) C dX10_letterAt_58 rfl 3 rfl rfl ?_
      refine x_virI (q := 62) C (Nat.le_of_ble_eq_true rfl) ly_51 rfl ck_RX10_109 vk_X10_cellAt (m_X10_cellAt l hI h) ⟨⟨rfl, rfl⟩, ⟨Nat.le_of_ble_eq_true rfl, Nat.le_of_ble_eq_true rfl⟩, ⟨Nat.zero_le _, Nat.zero_le _⟩⟩ dX10_letterAt_59 rfl rfl (Nat.le_of_ble_eq_true rfl) rfl (fun z11 σ11 h => ?_)
      rw [h.1]
      have h := h.2
      refine x_iadd (q := 63) C dX10_letterAt_62  rfl ?_
      obtain ⟨o12, h⟩ := h
      refine x_iald (q := 64) C (Nat.le_of_ble_eq_true rfl) ly_53 dX10_letterAt_63 (ix o12 rfl) (Nat.le_of_ble_eq_true rfl) rfl ?_
      exact x_iret C dX10_letterAt_64 ⟨rfl, h⟩
    · have h := h.2 c10
      refine x_bipush (q := 37) (z := (-9)) C dX10_letterAt_35 rfl rfl ?_
      refine x_goto (tgt := 64) C dX10_letterAt_37 rfl ?_
      exact x_iret C dX10_letterAt_64 ⟨rfl, h⟩
abbrev rm_X10_cellsSeen : Room := { frames := 3, cells := 0, slots := 0, locals := 76 }
def vc_X10_cellsSeen (σ : GS) (a0 : Int) (a1 : Int) (a2 : Int) (Post : Int → Prop) : Prop :=
  ∃ I1 : Nat → Int → Int → Prop, (∃ n : Nat, I1 n 0 0) ∧ ∀ (n1 : Nat) (v4_1 : Int) (v5_1 : Int), I1 n1 v4_1 v5_1 →
  ((rg v5_1) ∧
      (((28 : Int) ≤ v5_1 →
        (Post v4_1)) ∧
      (¬ (28 : Int) ≤ v5_1 →
        (vc_X10_bladeAt σ a0 63 v5_1 a2 (fun (z4 : Int) =>
          (rg z4) ∧
        ((rg a1) ∧
        ((¬ z4 = a1 →
          (∃ n' : Nat, n' < n1 ∧ I1 n' (v4_1 + 0) (v5_1 + 1))) ∧
        (z4 = a1 →
          (∃ n' : Nat, n' < n1 ∧ I1 n' (v4_1 + 1) (v5_1 + 1))))))))))
set_option maxHeartbeats 4000000 in
set_option maxRecDepth 10000 in
theorem m_X10_cellsSeen (l : Launch) {ad : Nat → Nat} {D : va_G} {cI cZ cG : ClassId} (hI : Ij ad) {σ : GS} {a0 : Int} {a1 : Int} {a2 : Int} {Post : Int → Prop} (h : vc_X10_cellsSeen σ a0 a1 a2 Post) : Met l yX10_cellsSeen (wX yX10_cellsSeen cX10_cellsSeen 6 (some .int)) rm_X10_cellsSeen (va_Pc [.ref (ad 51), .int (iI a0), .int (iI a1), .int (iI a2)] (Wd ad D cI cZ cG σ)) (QI ad D cI cZ cG (fun z u => u = σ ∧ Post z)) 0 0 (Aw ad) := by
  refine met_V (own := RX10) hI (by decide +kernel) rfl (Nat.le_of_ble_eq_true rfl) ?_
  intro p e s m args below meth c C
  unfold vc_X10_cellsSeen at h
  show V p l e rm_X10_cellsSeen s m args below meth c ad D cI cZ cG (Aw ad) 6 0 0 (MQ below (QI ad D cI cZ cG (fun z u => u = σ ∧ Post z)) args s 0 0 (Aw ad)) σ 0 [(0, .ref (ad 51)), (1, .int (iI a0)), (2, .int (iI a1)), (3, .int (iI a2))] []
  refine x_iconst (q := 1) (z := 0) C dX10_cellsSeen_0 rfl rfl ?_
  refine x_istore (q := 3) (i := 4) (lv' := [(0, .ref (ad 51)), (1, .int (iI a0)), (2, .int (iI a1)), (3, .int (iI a2)), (4, .int (iI 0))]) C dX10_cellsSeen_1 (Nat.le_of_ble_eq_true rfl) [1, 2, 3, 4, 0] rfl rfl ?_
  refine x_iconst (q := 4) (z := 0) C dX10_cellsSeen_3 rfl rfl ?_
  refine x_istore (q := 6) (i := 5) (lv' := [(0, .ref (ad 51)), (1, .int (iI a0)), (2, .int (iI a1)), (3, .int (iI a2)), (4, .int (iI 0)), (5, .int (iI 0))]) C dX10_cellsSeen_4 (Nat.le_of_ble_eq_true rfl) [1, 2, 3, 4, 5, 0] rfl rfl ?_
  obtain ⟨I1, ⟨n01, h01⟩, hs1⟩ := h
  have L1 : ∀ (n1 : Nat) (v4_1 : Int) (v5_1 : Int), I1 n1 v4_1 v5_1 → V p l e rm_X10_cellsSeen s m args below meth c ad D cI cZ cG (Aw ad) 6 0 0 (MQ below (QI ad D cI cZ cG (fun z u => u = σ ∧ Post z)) args s 0 0 (Aw ad)) σ 6 [(0, .ref (ad 51)), (1, .int (iI a0)), (2, .int (iI a1)), (3, .int (iI a2)), (4, .int (iI v4_1)), (5, .int (iI v5_1))] [] := by
    intro n1
    induction n1 using Nat.strongRecOn with
    | ind n1 ih1 =>
      intro v4_1 v5_1 h
      have h := hs1 n1 v4_1 v5_1 h
      refine x_iload (q := 8) C dX10_cellsSeen_6 5 rfl rfl ?_
      refine x_bipush (q := 10) (z := 28) C dX10_cellsSeen_8 rfl rfl ?_
      obtain ⟨o2, h⟩ := h
      refine x_icmp_ge (q := 13) (tgt := 43) C dX10_cellsSeen_10 rfl ⟨o2, by decide⟩ rfl (fun c3 => ?_) (fun c3 => ?_)
      · have h := h.1 c3
        refine x_iload (q := 45) C dX10_cellsSeen_43 4 rfl rfl ?_
        exact x_iret C dX10_cellsSeen_45 ⟨rfl, h⟩
      · have h := h.2 c3
        refine x_iload (q := 15) C dX10_cellsSeen_13 4 rfl rfl ?_
        refine x_aload_n (q := 16) (i := 0) C dX10_cellsSeen_15 rfl 0 rfl rfl ?_
        refine x_iload_n (q := 17) (i := 1) C dX10_cellsSeen_16 rfl 1 rfl rfl ?_
        refine x_bipush (q := 19) (z := 63) C dX10_cellsSeen_17 rfl rfl ?_
        refine x_iload (q := 21) C dX10_cellsSeen_19 5 rfl rfl ?_
        refine x_iload_n (q := 22) (i := 3) C dX10_cellsSeen_21 rfl 3 rfl rfl ?_
        refine x_virI (q := 25) C (Nat.le_of_ble_eq_true rfl) ly_51 rfl ck_RX10_115 vk_X10_bladeAt (m_X10_bladeAt l hI h) ⟨⟨rfl, rfl⟩, ⟨Nat.le_of_ble_eq_true rfl, Nat.le_of_ble_eq_true rfl⟩, ⟨Nat.zero_le _, Nat.zero_le _⟩⟩ dX10_cellsSeen_22 rfl rfl (Nat.le_of_ble_eq_true rfl) rfl (fun z4 σ4 h => ?_)
        rw [h.1]
        have h := h.2
        refine x_iload_n (q := 26) (i := 2) C dX10_cellsSeen_25 rfl 2 rfl rfl ?_
        obtain ⟨o5, h⟩ := h
        obtain ⟨o6, h⟩ := h
        refine x_icmp_ne (q := 29) (tgt := 33) C dX10_cellsSeen_26 rfl ⟨o5, o6⟩ rfl (fun c7 => ?_) (fun c7 => ?_)
        · have h := h.1 c7
          refine x_iconst (q := 34) (z := 0) C dX10_cellsSeen_33 rfl rfl ?_
          refine x_iadd (q := 35) C dX10_cellsSeen_34  rfl ?_
          refine x_istore (q := 37) (i := 4) (lv' := [(0, .ref (ad 51)), (1, .int (iI a0)), (2, .int (iI a1)), (3, .int (iI a2)), (4, .int (iI (v4_1 + 0))), (5, .int (iI v5_1))]) C dX10_cellsSeen_35 (Nat.le_of_ble_eq_true rfl) [1, 2, 3, 4, 0, 5] rfl rfl ?_
          refine x_iinc (q := 40) (z' := v5_1 + 1) (lv' := [(0, .ref (ad 51)), (1, .int (iI a0)), (2, .int (iI a1)), (3, .int (iI a2)), (4, .int (iI (v4_1 + 0))), (5, .int (iI (v5_1 + 1)))]) C dX10_cellsSeen_37 5 rfl rfl (Nat.le_of_ble_eq_true rfl) [1, 2, 3, 4, 5, 0] rfl rfl ?_
          refine x_goto (tgt := 6) C dX10_cellsSeen_40 rfl ?_
          obtain ⟨n8, hl9, h⟩ := h
          refine x_sub [0, 1, 2, 3, 4, 5] rfl ?_
          exact ih1 n8 hl9 _ _ h
        · have h := h.2 c7
          refine x_iconst (q := 30) (z := 1) C dX10_cellsSeen_29 rfl rfl ?_
          refine x_goto (tgt := 34) C dX10_cellsSeen_30 rfl ?_
          refine x_iadd (q := 35) C dX10_cellsSeen_34  rfl ?_
          refine x_istore (q := 37) (i := 4) (lv' := [(0, .ref (ad 51)), (1, .int (iI a0)), (2, .int (iI a1)), (3, .int (iI a2)), (4, .int (iI (v4_1 + 1))), (5, .int (iI v5_1))]) C dX10_cellsSeen_35 (Nat.le_of_ble_eq_true rfl) [1, 2, 3, 4, 0, 5] rfl rfl ?_
          refine x_iinc (q := 40) (z' := v5_1 + 1) (lv' := [(0, .ref (ad 51)), (1, .int (iI a0)), (2, .int (iI a1)), (3, .int (iI a2)), (4, .int (iI (v4_1 + 1))), (5, .int (iI (v5_1 + 1)))]) C dX10_cellsSeen_37 5 rfl rfl (Nat.le_of_ble_eq_true rfl) [1, 2, 3, 4, 5, 0] rfl rfl ?_
          refine x_goto (tgt := 6) C dX10_cellsSeen_40 rfl ?_
          obtain ⟨n10, hl11, h⟩ := h
          refine x_sub [0, 1, 2, 3, 4, 5] rfl ?_
          exact ih1 n10 hl11 _ _ h
  exact L1 n01 0 0 h01
abbrev rm_X10_wide : Room := { frames := 3, cells := 0, slots := 0, locals := 76 }
def vc_X10_wide (σ : GS) (a0 : Int) (Post : Int → Prop) : Prop :=
  ∃ I1 : Nat → Int → Int → Prop, (∃ n : Nat, I1 n 0 0) ∧ ∀ (n1 : Nat) (v2_1 : Int) (v3_1 : Int), I1 n1 v2_1 v3_1 →
  ((rg v3_1) ∧
      (((28 : Int) ≤ v3_1 →
        (Post v2_1)) ∧
      (¬ (28 : Int) ≤ v3_1 →
        (vc_X10_bladeAt σ a0 63 v3_1 0 (fun (z4 : Int) =>
          (rg z4) ∧
        ((¬ z4 = (-9) →
          (∃ n' : Nat, n' < n1 ∧ I1 n' (v3_1 + 1) (v3_1 + 1))) ∧
        (z4 = (-9) →
          (∃ n' : Nat, n' < n1 ∧ I1 n' v2_1 (v3_1 + 1)))))))))
set_option maxHeartbeats 4000000 in
set_option maxRecDepth 10000 in
theorem m_X10_wide (l : Launch) {ad : Nat → Nat} {D : va_G} {cI cZ cG : ClassId} (hI : Ij ad) {σ : GS} {a0 : Int} {Post : Int → Prop} (h : vc_X10_wide σ a0 Post) : Met l yX10_wide (wX yX10_wide cX10_wide 4 (some .int)) rm_X10_wide (va_Pc [.ref (ad 51), .int (iI a0)] (Wd ad D cI cZ cG σ)) (QI ad D cI cZ cG (fun z u => u = σ ∧ Post z)) 0 0 (Aw ad) := by
  refine met_V (own := RX10) hI (by decide +kernel) rfl (Nat.le_of_ble_eq_true rfl) ?_
  intro p e s m args below meth c C
  unfold vc_X10_wide at h
  show V p l e rm_X10_wide s m args below meth c ad D cI cZ cG (Aw ad) 4 0 0 (MQ below (QI ad D cI cZ cG (fun z u => u = σ ∧ Post z)) args s 0 0 (Aw ad)) σ 0 [(0, .ref (ad 51)), (1, .int (iI a0))] []
  refine x_iconst (q := 1) (z := 0) C dX10_wide_0 rfl rfl ?_
  refine x_istore_n (q := 2) (i := 2) (lv' := [(0, .ref (ad 51)), (1, .int (iI a0)), (2, .int (iI 0))]) C dX10_wide_1 rfl (Nat.le_of_ble_eq_true rfl) [1, 2, 0] rfl rfl ?_
  refine x_iconst (q := 3) (z := 0) C dX10_wide_2 rfl rfl ?_
  refine x_istore_n (q := 4) (i := 3) (lv' := [(0, .ref (ad 51)), (1, .int (iI a0)), (2, .int (iI 0)), (3, .int (iI 0))]) C dX10_wide_3 rfl (Nat.le_of_ble_eq_true rfl) [1, 2, 3, 0] rfl rfl ?_
  obtain ⟨I1, ⟨n01, h01⟩, hs1⟩ := h
  have L1 : ∀ (n1 : Nat) (v2_1 : Int) (v3_1 : Int), I1 n1 v2_1 v3_1 → V p l e rm_X10_wide s m args below meth c ad D cI cZ cG (Aw ad) 4 0 0 (MQ below (QI ad D cI cZ cG (fun z u => u = σ ∧ Post z)) args s 0 0 (Aw ad)) σ 4 [(0, .ref (ad 51)), (1, .int (iI a0)), (2, .int (iI v2_1)), (3, .int (iI v3_1))] [] := by
    intro n1
    induction n1 using Nat.strongRecOn with
    | ind n1 ih1 =>
      intro v2_1 v3_1 h
      have h := hs1 n1 v2_1 v3_1 h
      refine x_iload_n (q := 5) (i := 3) C dX10_wide_4 rfl 3 rfl rfl ?_
      refine x_bipush (q := 7) (z := 28) C dX10_wide_5 rfl rfl ?_
      obtain ⟨o2, h⟩ := h
      refine x_icmp_ge (q := 10) (tgt := 38) C dX10_wide_7 rfl ⟨o2, by decide⟩ rfl (fun c3 => ?_) (fun c3 => ?_)
      · have h := h.1 c3
        refine x_iload_n (q := 39) (i := 2) C dX10_wide_38 rfl 2 rfl rfl ?_
        exact x_iret C dX10_wide_39 ⟨rfl, h⟩
      · have h := h.2 c3
        refine x_aload_n (q := 11) (i := 0) C dX10_wide_10 rfl 0 rfl rfl ?_
        refine x_iload_n (q := 12) (i := 1) C dX10_wide_11 rfl 1 rfl rfl ?_
        refine x_bipush (q := 14) (z := 63) C dX10_wide_12 rfl rfl ?_
        refine x_iload_n (q := 15) (i := 3) C dX10_wide_14 rfl 3 rfl rfl ?_
        refine x_iconst (q := 16) (z := 0) C dX10_wide_15 rfl rfl ?_
        refine x_virI (q := 19) C (Nat.le_of_ble_eq_true rfl) ly_51 rfl ck_RX10_115 vk_X10_bladeAt (m_X10_bladeAt l hI h) ⟨⟨rfl, rfl⟩, ⟨Nat.le_of_ble_eq_true rfl, Nat.le_of_ble_eq_true rfl⟩, ⟨Nat.zero_le _, Nat.zero_le _⟩⟩ dX10_wide_16 rfl rfl (Nat.le_of_ble_eq_true rfl) rfl (fun z4 σ4 h => ?_)
        rw [h.1]
        have h := h.2
        refine x_bipush (q := 21) (z := (-9)) C dX10_wide_19 rfl rfl ?_
        obtain ⟨o5, h⟩ := h
        refine x_icmp_ne (q := 24) (tgt := 28) C dX10_wide_21 rfl ⟨o5, by decide⟩ rfl (fun c6 => ?_) (fun c6 => ?_)
        · have h := h.1 c6
          refine x_iload_n (q := 29) (i := 3) C dX10_wide_28 rfl 3 rfl rfl ?_
          refine x_iconst (q := 30) (z := 1) C dX10_wide_29 rfl rfl ?_
          refine x_iadd (q := 31) C dX10_wide_30  rfl ?_
          refine x_istore_n (q := 32) (i := 2) (lv' := [(0, .ref (ad 51)), (1, .int (iI a0)), (2, .int (iI (v3_1 + 1))), (3, .int (iI v3_1))]) C dX10_wide_31 rfl (Nat.le_of_ble_eq_true rfl) [1, 2, 0, 3] rfl rfl ?_
          refine x_iinc (q := 35) (z' := v3_1 + 1) (lv' := [(0, .ref (ad 51)), (1, .int (iI a0)), (2, .int (iI (v3_1 + 1))), (3, .int (iI (v3_1 + 1)))]) C dX10_wide_32 3 rfl rfl (Nat.le_of_ble_eq_true rfl) [1, 2, 3, 0] rfl rfl ?_
          refine x_goto (tgt := 4) C dX10_wide_35 rfl ?_
          obtain ⟨n7, hl8, h⟩ := h
          refine x_sub [0, 1, 2, 3] rfl ?_
          exact ih1 n7 hl8 _ _ h
        · have h := h.2 c6
          refine x_iload_n (q := 25) (i := 2) C dX10_wide_24 rfl 2 rfl rfl ?_
          refine x_goto (tgt := 31) C dX10_wide_25 rfl ?_
          refine x_istore_n (q := 32) (i := 2) (lv' := [(0, .ref (ad 51)), (1, .int (iI a0)), (2, .int (iI v2_1)), (3, .int (iI v3_1))]) C dX10_wide_31 rfl (Nat.le_of_ble_eq_true rfl) [1, 2, 0, 3] rfl rfl ?_
          refine x_iinc (q := 35) (z' := v3_1 + 1) (lv' := [(0, .ref (ad 51)), (1, .int (iI a0)), (2, .int (iI v2_1)), (3, .int (iI (v3_1 + 1)))]) C dX10_wide_32 3 rfl rfl (Nat.le_of_ble_eq_true rfl) [1, 2, 3, 0] rfl rfl ?_
          refine x_goto (tgt := 4) C dX10_wide_35 rfl ?_
          obtain ⟨n9, hl10, h⟩ := h
          refine x_sub [0, 1, 2, 3] rfl ?_
          exact ih1 n9 hl10 _ _ h
  exact L1 n01 0 0 h01
abbrev rm_X10_placesSeen : Room := { frames := 3, cells := 0, slots := 0, locals := 76 }
def vc_X10_placesSeen (σ : GS) (a0 : Int) (a1 : Int) (Post : Int → Prop) : Prop :=
  ∃ I1 : Nat → Int → Int → Prop, (∃ n : Nat, I1 n 0 0) ∧ ∀ (n1 : Nat) (v3_1 : Int) (v4_1 : Int), I1 n1 v3_1 v4_1 →
  ((rg v4_1) ∧
      (((28 : Int) ≤ v4_1 →
        (Post v3_1)) ∧
      (¬ (28 : Int) ≤ v4_1 →
        (vc_X10_bladeAt σ a0 a1 v4_1 0 (fun (z4 : Int) =>
          (rg z4) ∧
        ((¬ z4 = (-9) →
          (∃ n' : Nat, n' < n1 ∧ I1 n' (v3_1 + 1) (v4_1 + 1))) ∧
        (z4 = (-9) →
          (∃ n' : Nat, n' < n1 ∧ I1 n' (v3_1 + 0) (v4_1 + 1)))))))))
set_option maxHeartbeats 4000000 in
set_option maxRecDepth 10000 in
theorem m_X10_placesSeen (l : Launch) {ad : Nat → Nat} {D : va_G} {cI cZ cG : ClassId} (hI : Ij ad) {σ : GS} {a0 : Int} {a1 : Int} {Post : Int → Prop} (h : vc_X10_placesSeen σ a0 a1 Post) : Met l yX10_placesSeen (wX yX10_placesSeen cX10_placesSeen 5 (some .int)) rm_X10_placesSeen (va_Pc [.ref (ad 51), .int (iI a0), .int (iI a1)] (Wd ad D cI cZ cG σ)) (QI ad D cI cZ cG (fun z u => u = σ ∧ Post z)) 0 0 (Aw ad) := by
  refine met_V (own := RX10) hI (by decide +kernel) rfl (Nat.le_of_ble_eq_true rfl) ?_
  intro p e s m args below meth c C
  unfold vc_X10_placesSeen at h
  show V p l e rm_X10_placesSeen s m args below meth c ad D cI cZ cG (Aw ad) 5 0 0 (MQ below (QI ad D cI cZ cG (fun z u => u = σ ∧ Post z)) args s 0 0 (Aw ad)) σ 0 [(0, .ref (ad 51)), (1, .int (iI a0)), (2, .int (iI a1))] []
  refine x_iconst (q := 1) (z := 0) C dX10_placesSeen_0 rfl rfl ?_
  refine x_istore_n (q := 2) (i := 3) (lv' := [(0, .ref (ad 51)), (1, .int (iI a0)), (2, .int (iI a1)), (3, .int (iI 0))]) C dX10_placesSeen_1 rfl (Nat.le_of_ble_eq_true rfl) [1, 2, 3, 0] rfl rfl ?_
  refine x_iconst (q := 3) (z := 0) C dX10_placesSeen_2 rfl rfl ?_
  refine x_istore (q := 5) (i := 4) (lv' := [(0, .ref (ad 51)), (1, .int (iI a0)), (2, .int (iI a1)), (3, .int (iI 0)), (4, .int (iI 0))]) C dX10_placesSeen_3 (Nat.le_of_ble_eq_true rfl) [1, 2, 3, 4, 0] rfl rfl ?_
  obtain ⟨I1, ⟨n01, h01⟩, hs1⟩ := h
  have L1 : ∀ (n1 : Nat) (v3_1 : Int) (v4_1 : Int), I1 n1 v3_1 v4_1 → V p l e rm_X10_placesSeen s m args below meth c ad D cI cZ cG (Aw ad) 5 0 0 (MQ below (QI ad D cI cZ cG (fun z u => u = σ ∧ Post z)) args s 0 0 (Aw ad)) σ 5 [(0, .ref (ad 51)), (1, .int (iI a0)), (2, .int (iI a1)), (3, .int (iI v3_1)), (4, .int (iI v4_1))] [] := by
    intro n1
    induction n1 using Nat.strongRecOn with
    | ind n1 ih1 =>
      intro v3_1 v4_1 h
      have h := hs1 n1 v3_1 v4_1 h
      refine x_iload (q := 7) C dX10_placesSeen_5 4 rfl rfl ?_
      refine x_bipush (q := 9) (z := 28) C dX10_placesSeen_7 rfl rfl ?_
      obtain ⟨o2, h⟩ := h
      refine x_icmp_ge (q := 12) (tgt := 40) C dX10_placesSeen_9 rfl ⟨o2, by decide⟩ rfl (fun c3 => ?_) (fun c3 => ?_)
      · have h := h.1 c3
        refine x_iload_n (q := 41) (i := 3) C dX10_placesSeen_40 rfl 3 rfl rfl ?_
        exact x_iret C dX10_placesSeen_41 ⟨rfl, h⟩
      · have h := h.2 c3
        refine x_iload_n (q := 13) (i := 3) C dX10_placesSeen_12 rfl 3 rfl rfl ?_
        refine x_aload_n (q := 14) (i := 0) C dX10_placesSeen_13 rfl 0 rfl rfl ?_
        refine x_iload_n (q := 15) (i := 1) C dX10_placesSeen_14 rfl 1 rfl rfl ?_
        refine x_iload_n (q := 16) (i := 2) C dX10_placesSeen_15 rfl 2 rfl rfl ?_
        refine x_iload (q := 18) C dX10_placesSeen_16 4 rfl rfl ?_
        refine x_iconst (q := 19) (z := 0) C dX10_placesSeen_18 rfl rfl ?_
        refine x_virI (q := 22) C (Nat.le_of_ble_eq_true rfl) ly_51 rfl ck_RX10_115 vk_X10_bladeAt (m_X10_bladeAt l hI h) ⟨⟨rfl, rfl⟩, ⟨Nat.le_of_ble_eq_true rfl, Nat.le_of_ble_eq_true rfl⟩, ⟨Nat.zero_le _, Nat.zero_le _⟩⟩ dX10_placesSeen_19 rfl rfl (Nat.le_of_ble_eq_true rfl) rfl (fun z4 σ4 h => ?_)
        rw [h.1]
        have h := h.2
        refine x_bipush (q := 24) (z := (-9)) C dX10_placesSeen_22 rfl rfl ?_
        obtain ⟨o5, h⟩ := h
        refine x_icmp_ne (q := 27) (tgt := 31) C dX10_placesSeen_24 rfl ⟨o5, by decide⟩ rfl (fun c6 => ?_) (fun c6 => ?_)
        · have h := h.1 c6
          refine x_iconst (q := 32) (z := 1) C dX10_placesSeen_31 rfl rfl ?_
          refine x_iadd (q := 33) C dX10_placesSeen_32  rfl ?_
          refine x_istore_n (q := 34) (i := 3) (lv' := [(0, .ref (ad 51)), (1, .int (iI a0)), (2, .int (iI a1)), (3, .int (iI (v3_1 + 1))), (4, .int (iI v4_1))]) C dX10_placesSeen_33 rfl (Nat.le_of_ble_eq_true rfl) [1, 2, 3, 0, 4] rfl rfl ?_
          refine x_iinc (q := 37) (z' := v4_1 + 1) (lv' := [(0, .ref (ad 51)), (1, .int (iI a0)), (2, .int (iI a1)), (3, .int (iI (v3_1 + 1))), (4, .int (iI (v4_1 + 1)))]) C dX10_placesSeen_34 4 rfl rfl (Nat.le_of_ble_eq_true rfl) [1, 2, 3, 4, 0] rfl rfl ?_
          refine x_goto (tgt := 5) C dX10_placesSeen_37 rfl ?_
          obtain ⟨n7, hl8, h⟩ := h
          refine x_sub [0, 1, 2, 3, 4] rfl ?_
          exact ih1 n7 hl8 _ _ h
        · have h := h.2 c6
          refine x_iconst (q := 28) (z := 0) C dX10_placesSeen_27 rfl rfl ?_
          refine x_goto (tgt := 32) C dX10_placesSeen_28 rfl ?_
          refine x_iadd (q := 33) C dX10_placesSeen_32  rfl ?_
          refine x_istore_n (q := 34) (i := 3) (lv' := [(0, .ref (ad 51)), (1, .int (iI a0)), (2, .int (iI a1)), (3, .int (iI (v3_1 + 0))), (4, .int (iI v4_1))]) C dX10_placesSeen_33 rfl (Nat.le_of_ble_eq_true rfl) [1, 2, 3, 0, 4] rfl rfl ?_
          refine x_iinc (q := 37) (z' := v4_1 + 1) (lv' := [(0, .ref (ad 51)), (1, .int (iI a0)), (2, .int (iI a1)), (3, .int (iI (v3_1 + 0))), (4, .int (iI (v4_1 + 1)))]) C dX10_placesSeen_34 4 rfl rfl (Nat.le_of_ble_eq_true rfl) [1, 2, 3, 4, 0] rfl rfl ?_
          refine x_goto (tgt := 5) C dX10_placesSeen_37 rfl ?_
          obtain ⟨n9, hl10, h⟩ := h
          refine x_sub [0, 1, 2, 3, 4] rfl ?_
          exact ih1 n9 hl10 _ _ h
  exact L1 n01 0 0 h01
abbrev rm_X10_isReadAt : Room := { frames := 4, cells := 0, slots := 0, locals := 101 }
def vc_X10_isReadAt (σ : GS) (a0 : Int) (a1 : Int) (a2 : Int) (a3 : Int) (Post : Int → Prop) : Prop :=
  ∃ I1 : Nat → Int → Int → Prop, (∃ n : Nat, I1 n 1 0) ∧ ∀ (n1 : Nat) (v5_1 : Int) (v6_1 : Int), I1 n1 v5_1 v6_1 →
  ((rg v6_1) ∧
      ((rg (σ 51 9)) ∧
      (((σ 51 9) ≤ v6_1 →
        ((v5_1 = 0 ∨ v5_1 = 1) ∧
        (Post v5_1))) ∧
      (¬ (σ 51 9) ≤ v6_1 →
        ((rg v5_1) ∧
        ((v5_1 = 0 →
          ((v5_1 = 0 ∨ v5_1 = 1) ∧
          (Post v5_1))) ∧
        (¬ v5_1 = 0 →
          ((rg a2) ∧
          ((¬ a2 = 0 →
            (vc_X10_letterAt σ a0 a1 (a3 - v6_1) a2 (fun (z11 : Int) =>
              (0 ≤ v6_1 ∧ v6_1 < 5) ∧
            ((rg z11) ∧
            ((rg (σ 58 v6_1.toNat)) ∧
            ((¬ z11 = (σ 58 v6_1.toNat) →
              (∃ n' : Nat, n' < n1 ∧ I1 n' 0 (v6_1 + 1))) ∧
            (z11 = (σ 58 v6_1.toNat) →
              (∃ n' : Nat, n' < n1 ∧ I1 n' 1 (v6_1 + 1))))))))) ∧
          (a2 = 0 →
            (vc_X10_letterAt σ a0 a1 (a3 + v6_1) a2 (fun (z20 : Int) =>
              (0 ≤ v6_1 ∧ v6_1 < 5) ∧
            ((rg z20) ∧
            ((rg (σ 58 v6_1.toNat)) ∧
            ((¬ z20 = (σ 58 v6_1.toNat) →
              (∃ n' : Nat, n' < n1 ∧ I1 n' 0 (v6_1 + 1))) ∧
            (z20 = (σ 58 v6_1.toNat) →
              (∃ n' : Nat, n' < n1 ∧ I1 n' 1 (v6_1 + 1))))))))))))))))))
set_option maxHeartbeats 4000000 in
set_option maxRecDepth 10000 in
theorem m_X10_isReadAt (l : Launch) {ad : Nat → Nat} {D : va_G} {cI cZ cG : ClassId} (hI : Ij ad) {σ : GS} {a0 : Int} {a1 : Int} {a2 : Int} {a3 : Int} {Post : Int → Prop} (h : vc_X10_isReadAt σ a0 a1 a2 a3 Post) : Met l yX10_isReadAt (wX yX10_isReadAt cX10_isReadAt 7 (some .boolean)) rm_X10_isReadAt (va_Pc [.ref (ad 51), .int (iI a0), .int (iI a1), .int (iI a2), .int (iI a3)] (Wd ad D cI cZ cG σ)) (QI ad D cI cZ cG (fun z u => u = σ ∧ Post z)) 0 0 (Aw ad) := by
  refine met_V (own := RX10) hI (by decide +kernel) rfl (Nat.le_of_ble_eq_true rfl) ?_
  intro p e s m args below meth c C
  unfold vc_X10_isReadAt at h
  show V p l e rm_X10_isReadAt s m args below meth c ad D cI cZ cG (Aw ad) 7 0 0 (MQ below (QI ad D cI cZ cG (fun z u => u = σ ∧ Post z)) args s 0 0 (Aw ad)) σ 0 [(0, .ref (ad 51)), (1, .int (iI a0)), (2, .int (iI a1)), (3, .int (iI a2)), (4, .int (iI a3))] []
  refine x_iconst (q := 1) (z := 1) C dX10_isReadAt_0 rfl rfl ?_
  refine x_istore (q := 3) (i := 5) (lv' := [(0, .ref (ad 51)), (1, .int (iI a0)), (2, .int (iI a1)), (3, .int (iI a2)), (4, .int (iI a3)), (5, .int (iI 1))]) C dX10_isReadAt_1 (Nat.le_of_ble_eq_true rfl) [1, 2, 3, 4, 5, 0] rfl rfl ?_
  refine x_iconst (q := 4) (z := 0) C dX10_isReadAt_3 rfl rfl ?_
  refine x_istore (q := 6) (i := 6) (lv' := [(0, .ref (ad 51)), (1, .int (iI a0)), (2, .int (iI a1)), (3, .int (iI a2)), (4, .int (iI a3)), (5, .int (iI 1)), (6, .int (iI 0))]) C dX10_isReadAt_4 (Nat.le_of_ble_eq_true rfl) [1, 2, 3, 4, 5, 6, 0] rfl rfl ?_
  obtain ⟨I1, ⟨n01, h01⟩, hs1⟩ := h
  have L1 : ∀ (n1 : Nat) (v5_1 : Int) (v6_1 : Int), I1 n1 v5_1 v6_1 → V p l e rm_X10_isReadAt s m args below meth c ad D cI cZ cG (Aw ad) 7 0 0 (MQ below (QI ad D cI cZ cG (fun z u => u = σ ∧ Post z)) args s 0 0 (Aw ad)) σ 6 [(0, .ref (ad 51)), (1, .int (iI a0)), (2, .int (iI a1)), (3, .int (iI a2)), (4, .int (iI a3)), (5, .int (iI v5_1)), (6, .int (iI v6_1))] [] := by
    intro n1
    induction n1 using Nat.strongRecOn with
    | ind n1 ih1 =>
      intro v5_1 v6_1 h
      have h := hs1 n1 v5_1 v6_1 h
      refine x_iload (q := 8) C dX10_isReadAt_6 6 rfl rfl ?_
      refine x_aload_n (q := 9) (i := 0) C dX10_isReadAt_8 rfl 0 rfl rfl ?_
      refine x_getI (q := 12) C (Nat.le_of_ble_eq_true rfl) ly_51 fk_RX10_94 rfl dX10_isReadAt_9 rfl ?_
      obtain ⟨o2, h⟩ := h
      obtain ⟨o3, h⟩ := h
      refine x_icmp_ge (q := 15) (tgt := 67) C dX10_isReadAt_12 rfl ⟨o2, o3⟩ rfl (fun c4 => ?_) (fun c4 => ?_)
      · have h := h.1 c4
        refine x_iload (q := 69) C dX10_isReadAt_67 5 rfl rfl ?_
        obtain ⟨o5, h⟩ := h
        exact x_zret C dX10_isReadAt_69 o5 ⟨rfl, h⟩
      · have h := h.2 c4
        refine x_iload (q := 17) C dX10_isReadAt_15 5 rfl rfl ?_
        obtain ⟨o6, h⟩ := h
        refine x_if_eq (q := 20) (tgt := 67) C dX10_isReadAt_17 rfl o6 rfl (fun c7 => ?_) (fun c7 => ?_)
        · have h := h.1 c7
          refine x_iload (q := 69) C dX10_isReadAt_67 5 rfl rfl ?_
          obtain ⟨o8, h⟩ := h
          exact x_zret C dX10_isReadAt_69 o8 ⟨rfl, h⟩
        · have h := h.2 c7
          refine x_aload_n (q := 21) (i := 0) C dX10_isReadAt_20 rfl 0 rfl rfl ?_
          refine x_iload_n (q := 22) (i := 1) C dX10_isReadAt_21 rfl 1 rfl rfl ?_
          refine x_iload_n (q := 23) (i := 2) C dX10_isReadAt_22 rfl 2 rfl rfl ?_
          refine x_iload_n (q := 24) (i := 3) C dX10_isReadAt_23 rfl 3 rfl rfl ?_
          obtain ⟨o9, h⟩ := h
          refine x_if_ne (q := 27) (tgt := 35) C dX10_isReadAt_24 rfl o9 rfl (fun c10 => ?_) (fun c10 => ?_)
          · have h := h.1 c10
            refine x_iload (q := 37) C dX10_isReadAt_35 4 rfl rfl ?_
            refine x_iload (q := 39) C dX10_isReadAt_37 6 rfl rfl ?_
            refine x_isub (q := 40) C dX10_isReadAt_39  rfl ?_
            refine x_iload_n (q := 41) (i := 3) C dX10_isReadAt_40 rfl 3 rfl rfl ?_
            refine x_virI (q := 44) C (Nat.le_of_ble_eq_true rfl) ly_51 rfl ck_RX10_119 vk_X10_letterAt (m_X10_letterAt l hI h) ⟨⟨rfl, rfl⟩, ⟨Nat.le_of_ble_eq_true rfl, Nat.le_of_ble_eq_true rfl⟩, ⟨Nat.zero_le _, Nat.zero_le _⟩⟩ dX10_isReadAt_41 rfl rfl (Nat.le_of_ble_eq_true rfl) rfl (fun z11 σ11 h => ?_)
            rw [h.1]
            have h := h.2
            refine x_aload_n (q := 45) (i := 0) C dX10_isReadAt_44 rfl 0 rfl rfl ?_
            refine x_getR (q := 48) (c0 := 58) C (Nat.le_of_ble_eq_true rfl) ly_51 fk_RX10_28 rfl dX10_isReadAt_45 rfl ?_
            refine x_iload (q := 50) C dX10_isReadAt_48 6 rfl rfl ?_
            obtain ⟨o12, h⟩ := h
            refine x_iald (q := 51) C (Nat.le_of_ble_eq_true rfl) ly_58 dX10_isReadAt_50 (ix o12 rfl) (Nat.le_of_ble_eq_true rfl) rfl ?_
            obtain ⟨o13, h⟩ := h
            obtain ⟨o14, h⟩ := h
            refine x_icmp_ne (q := 54) (tgt := 58) C dX10_isReadAt_51 rfl ⟨o13, o14⟩ rfl (fun c15 => ?_) (fun c15 => ?_)
            · have h := h.1 c15
              refine x_iconst (q := 59) (z := 0) C dX10_isReadAt_58 rfl rfl ?_
              refine x_istore (q := 61) (i := 5) (lv' := [(0, .ref (ad 51)), (1, .int (iI a0)), (2, .int (iI a1)), (3, .int (iI a2)), (4, .int (iI a3)), (5, .int (iI 0)), (6, .int (iI v6_1))]) C dX10_isReadAt_59 (Nat.le_of_ble_eq_true rfl) [1, 2, 3, 4, 5, 0, 6] rfl rfl ?_
              refine x_iinc (q := 64) (z' := v6_1 + 1) (lv' := [(0, .ref (ad 51)), (1, .int (iI a0)), (2, .int (iI a1)), (3, .int (iI a2)), (4, .int (iI a3)), (5, .int (iI 0)), (6, .int (iI (v6_1 + 1)))]) C dX10_isReadAt_61 6 rfl rfl (Nat.le_of_ble_eq_true rfl) [1, 2, 3, 4, 5, 6, 0] rfl rfl ?_
              refine x_goto (tgt := 6) C dX10_isReadAt_64 rfl ?_
              obtain ⟨n16, hl17, h⟩ := h
              refine x_sub [0, 1, 2, 3, 4, 5, 6] rfl ?_
              exact ih1 n16 hl17 _ _ h
            · have h := h.2 c15
              refine x_iconst (q := 55) (z := 1) C dX10_isReadAt_54 rfl rfl ?_
              refine x_goto (tgt := 59) C dX10_isReadAt_55 rfl ?_
              refine x_istore (q := 61) (i := 5) (lv' := [(0, .ref (ad 51)), (1, .int (iI a0)), (2, .int (iI a1)), (3, .int (iI a2)), (4, .int (iI a3)), (5, .int (iI 1)), (6, .int (iI v6_1))]) C dX10_isReadAt_59 (Nat.le_of_ble_eq_true rfl) [1, 2, 3, 4, 5, 0, 6] rfl rfl ?_
              refine x_iinc (q := 64) (z' := v6_1 + 1) (lv' := [(0, .ref (ad 51)), (1, .int (iI a0)), (2, .int (iI a1)), (3, .int (iI a2)), (4, .int (iI a3)), (5, .int (iI 1)), (6, .int (iI (v6_1 + 1)))]) C dX10_isReadAt_61 6 rfl rfl (Nat.le_of_ble_eq_true rfl) [1, 2, 3, 4, 5, 6, 0] rfl rfl ?_
              refine x_goto (tgt := 6) C dX10_isReadAt_64 rfl ?_
              obtain ⟨n18, hl19, h⟩ := h
              refine x_sub [0, 1, 2, 3, 4, 5, 6] rfl ?_
              exact ih1 n18 hl19 _ _ h
          · have h := h.2 c10
            refine x_iload (q := 29) C dX10_isReadAt_27 4 rfl rfl ?_
            refine x_iload (q := 31) C dX10_isReadAt_29 6 rfl rfl ?_
            refine x_iadd (q := 32) C dX10_isReadAt_31  rfl ?_
            refine x_goto (tgt := 40) C dX10_isReadAt_32 rfl ?_
            refine x_iload_n (q := 41) (i := 3) C dX10_isReadAt_40 rfl 3 rfl rfl ?_
            refine x_virI (q := 44) C (Nat.le_of_ble_eq_true rfl) ly_51 rfl ck_RX10_119 vk_X10_letterAt (m_X10_letterAt l hI h) ⟨⟨rfl, rfl⟩, ⟨Nat.le_of_ble_eq_true rfl, Nat.le_of_ble_eq_true rfl⟩, ⟨Nat.zero_le _, Nat.zero_le _⟩⟩ dX10_isReadAt_41 rfl rfl (Nat.le_of_ble_eq_true rfl) rfl (fun z20 σ20 h => ?_)
            rw [h.1]
            have h := h.2
            refine x_aload_n (q := 45) (i := 0) C dX10_isReadAt_44 rfl 0 rfl rfl ?_
            refine x_getR (q := 48) (c0 := 58) C (Nat.le_of_ble_eq_true rfl) ly_51 fk_RX10_28 rfl dX10_isReadAt_45 rfl ?_
            refine x_iload (q := 50) C dX10_isReadAt_48 6 rfl rfl ?_
            obtain ⟨o21, h⟩ := h
            refine x_iald (q := 51) C (Nat.le_of_ble_eq_true rfl) ly_58 dX10_isReadAt_50 (ix o21 rfl) (Nat.le_of_ble_eq_true rfl) rfl ?_
            obtain ⟨o22, h⟩ := h
            obtain ⟨o23, h⟩ := h
            refine x_icmp_ne (q := 54) (tgt := 58) C dX10_isReadAt_51 rfl ⟨o22, o23⟩ rfl (fun c24 => ?_) (fun c24 => ?_)
            · have h := h.1 c24
              refine x_iconst (q := 59) (z := 0) C dX10_isReadAt_58 rfl rfl ?_
              refine x_istore (q := 61) (i := 5) (lv' := [(0, .ref (ad 51)), (1, .int (iI a0)), (2, .int (iI a1)), (3, .int (iI a2)), (4, .int (iI a3)), (5, .int (iI 0)), (6, .int (iI v6_1))]) C dX10_isReadAt_59 (Nat.le_of_ble_eq_true rfl) [1, 2, 3, 4, 5, 0, 6] rfl rfl ?_
              refine x_iinc (q := 64) (z' := v6_1 + 1) (lv' := [(0, .ref (ad 51)), (1, .int (iI a0)), (2, .int (iI a1)), (3, .int (iI a2)), (4, .int (iI a3)), (5, .int (iI 0)), (6, .int (iI (v6_1 + 1)))]) C dX10_isReadAt_61 6 rfl rfl (Nat.le_of_ble_eq_true rfl) [1, 2, 3, 4, 5, 6, 0] rfl rfl ?_
              refine x_goto (tgt := 6) C dX10_isReadAt_64 rfl ?_
              obtain ⟨n25, hl26, h⟩ := h
              refine x_sub [0, 1, 2, 3, 4, 5, 6] rfl ?_
              exact ih1 n25 hl26 _ _ h
            · have h := h.2 c24
              refine x_iconst (q := 55) (z := 1) C dX10_isReadAt_54 rfl rfl ?_
              refine x_goto (tgt := 59) C dX10_isReadAt_55 rfl ?_
              refine x_istore (q := 61) (i := 5) (lv' := [(0, .ref (ad 51)), (1, .int (iI a0)), (2, .int (iI a1)), (3, .int (iI a2)), (4, .int (iI a3)), (5, .int (iI 1)), (6, .int (iI v6_1))]) C dX10_isReadAt_59 (Nat.le_of_ble_eq_true rfl) [1, 2, 3, 4, 5, 0, 6] rfl rfl ?_
              refine x_iinc (q := 64) (z' := v6_1 + 1) (lv' := [(0, .ref (ad 51)), (1, .int (iI a0)), (2, .int (iI a1)), (3, .int (iI a2)), (4, .int (iI a3)), (5, .int (iI 1)), (6, .int (iI (v6_1 + 1)))]) C dX10_isReadAt_61 6 rfl rfl (Nat.le_of_ble_eq_true rfl) [1, 2, 3, 4, 5, 6, 0] rfl rfl ?_
              refine x_goto (tgt := 6) C dX10_isReadAt_64 rfl ?_
              obtain ⟨n27, hl28, h⟩ := h
              refine x_sub [0, 1, 2, 3, 4, 5, 6] rfl ?_
              exact ih1 n27 hl28 _ _ h
  exact L1 n01 1 0 h01
abbrev rm_X10_readsOn : Room := { frames := 5, cells := 0, slots := 0, locals := 127 }
def vc_X10_readsOn (σ : GS) (a0 : Int) (a1 : Int) (a2 : Int) (Post : Int → Prop) : Prop :=
  (rg (σ 51 9)) ∧
  ((¬ (σ 51 9) = 0 →
    (∃ I3 : Nat → Int → Prop, (∃ n : Nat, I3 n 0) ∧ ∀ (n3 : Nat) (v4_3 : Int), I3 n3 v4_3 →
    ((rg v4_3) ∧
        (((28 : Int) ≤ v4_3 →
          (Post (-9))) ∧
        (¬ (28 : Int) ≤ v4_3 →
          ((rg a2) ∧
          ((¬ a2 = 0 →
            (vc_X10_isReadAt σ a0 a1 a2 (27 - v4_3) (fun (z8 : Int) =>
              (rg z8) ∧
            ((z8 = 0 →
              (∃ n' : Nat, n' < n3 ∧ I3 n' (v4_3 + 1))) ∧
            (¬ z8 = 0 →
              (Post (27 - v4_3))))))) ∧
          (a2 = 0 →
            (vc_X10_isReadAt σ a0 a1 a2 v4_3 (fun (z13 : Int) =>
              (rg z13) ∧
            ((z13 = 0 →
              (∃ n' : Nat, n' < n3 ∧ I3 n' (v4_3 + 1))) ∧
            (¬ z13 = 0 →
              (Post v4_3))))))))))))) ∧
  ((σ 51 9) = 0 →
    (Post 0)))
set_option maxHeartbeats 4000000 in
set_option maxRecDepth 10000 in
theorem m_X10_readsOn (l : Launch) {ad : Nat → Nat} {D : va_G} {cI cZ cG : ClassId} (hI : Ij ad) {σ : GS} {a0 : Int} {a1 : Int} {a2 : Int} {Post : Int → Prop} (h : vc_X10_readsOn σ a0 a1 a2 Post) : Met l yX10_readsOn (wX yX10_readsOn cX10_readsOn 6 (some .int)) rm_X10_readsOn (va_Pc [.ref (ad 51), .int (iI a0), .int (iI a1), .int (iI a2)] (Wd ad D cI cZ cG σ)) (QI ad D cI cZ cG (fun z u => u = σ ∧ Post z)) 0 0 (Aw ad) := by
  refine met_V (own := RX10) hI (by decide +kernel) rfl (Nat.le_of_ble_eq_true rfl) ?_
  intro p e s m args below meth c C
  unfold vc_X10_readsOn at h
  show V p l e rm_X10_readsOn s m args below meth c ad D cI cZ cG (Aw ad) 6 0 0 (MQ below (QI ad D cI cZ cG (fun z u => u = σ ∧ Post z)) args s 0 0 (Aw ad)) σ 0 [(0, .ref (ad 51)), (1, .int (iI a0)), (2, .int (iI a1)), (3, .int (iI a2))] []
  refine x_aload_n (q := 1) (i := 0) C dX10_readsOn_0 rfl 0 rfl rfl ?_
  refine x_getI (q := 4) C (Nat.le_of_ble_eq_true rfl) ly_51 fk_RX10_94 rfl dX10_readsOn_1 rfl ?_
  obtain ⟨o1, h⟩ := h
  refine x_if_ne (q := 7) (tgt := 9) C dX10_readsOn_4 rfl o1 rfl (fun c2 => ?_) (fun c2 => ?_)
  · have h := h.1 c2
    refine x_iconst (q := 10) (z := 0) C dX10_readsOn_9 rfl rfl ?_
    refine x_istore (q := 12) (i := 4) (lv' := [(0, .ref (ad 51)), (1, .int (iI a0)), (2, .int (iI a1)), (3, .int (iI a2)), (4, .int (iI 0))]) C dX10_readsOn_10 (Nat.le_of_ble_eq_true rfl) [1, 2, 3, 4, 0] rfl rfl ?_
    obtain ⟨I3, ⟨n03, h03⟩, hs3⟩ := h
    have L3 : ∀ (n3 : Nat) (v4_3 : Int), I3 n3 v4_3 → V p l e rm_X10_readsOn s m args below meth c ad D cI cZ cG (Aw ad) 6 0 0 (MQ below (QI ad D cI cZ cG (fun z u => u = σ ∧ Post z)) args s 0 0 (Aw ad)) σ 12 [(0, .ref (ad 51)), (1, .int (iI a0)), (2, .int (iI a1)), (3, .int (iI a2)), (4, .int (iI v4_3))] [] := by
      intro n3
      induction n3 using Nat.strongRecOn with
      | ind n3 ih3 =>
        intro v4_3 h
        have h := hs3 n3 v4_3 h
        refine x_iload (q := 14) C dX10_readsOn_12 4 rfl rfl ?_
        refine x_bipush (q := 16) (z := 28) C dX10_readsOn_14 rfl rfl ?_
        obtain ⟨o4, h⟩ := h
        refine x_icmp_ge (q := 19) (tgt := 56) C dX10_readsOn_16 rfl ⟨o4, by decide⟩ rfl (fun c5 => ?_) (fun c5 => ?_)
        · have h := h.1 c5
          refine x_bipush (q := 58) (z := (-9)) C dX10_readsOn_56 rfl rfl ?_
          exact x_iret C dX10_readsOn_58 ⟨rfl, h⟩
        · have h := h.2 c5
          refine x_iload_n (q := 20) (i := 3) C dX10_readsOn_19 rfl 3 rfl rfl ?_
          obtain ⟨o6, h⟩ := h
          refine x_if_ne (q := 23) (tgt := 28) C dX10_readsOn_20 rfl o6 rfl (fun c7 => ?_) (fun c7 => ?_)
          · have h := h.1 c7
            refine x_bipush (q := 30) (z := 27) C dX10_readsOn_28 rfl rfl ?_
            refine x_iload (q := 32) C dX10_readsOn_30 4 rfl rfl ?_
            refine x_isub (q := 33) C dX10_readsOn_32  rfl ?_
            refine x_istore (q := 35) (i := 5) (lv' := [(0, .ref (ad 51)), (1, .int (iI a0)), (2, .int (iI a1)), (3, .int (iI a2)), (4, .int (iI v4_3)), (5, .int (iI (27 - v4_3)))]) C dX10_readsOn_33 (Nat.le_of_ble_eq_true rfl) [1, 2, 3, 4, 5, 0] rfl rfl ?_
            refine x_aload_n (q := 36) (i := 0) C dX10_readsOn_35 rfl 0 rfl rfl ?_
            refine x_iload_n (q := 37) (i := 1) C dX10_readsOn_36 rfl 1 rfl rfl ?_
            refine x_iload_n (q := 38) (i := 2) C dX10_readsOn_37 rfl 2 rfl rfl ?_
            refine x_iload_n (q := 39) (i := 3) C dX10_readsOn_38 rfl 3 rfl rfl ?_
            refine x_iload (q := 41) C dX10_readsOn_39 5 rfl rfl ?_
            refine x_virI (q := 44) C (Nat.le_of_ble_eq_true rfl) ly_51 rfl ck_RX10_122 vk_X10_isReadAt (m_X10_isReadAt l hI h) ⟨⟨rfl, rfl⟩, ⟨Nat.le_of_ble_eq_true rfl, Nat.le_of_ble_eq_true rfl⟩, ⟨Nat.zero_le _, Nat.zero_le _⟩⟩ dX10_readsOn_41 rfl rfl (Nat.le_of_ble_eq_true rfl) rfl (fun z8 σ8 h => ?_)
            rw [h.1]
            have h := h.2
            obtain ⟨o9, h⟩ := h
            refine x_if_eq (q := 47) (tgt := 50) C dX10_readsOn_44 rfl o9 rfl (fun c10 => ?_) (fun c10 => ?_)
            · have h := h.1 c10
              refine x_iinc (q := 53) (z' := v4_3 + 1) (lv' := [(0, .ref (ad 51)), (1, .int (iI a0)), (2, .int (iI a1)), (3, .int (iI a2)), (4, .int (iI (v4_3 + 1))), (5, .int (iI (27 - v4_3)))]) C dX10_readsOn_50 4 rfl rfl (Nat.le_of_ble_eq_true rfl) [1, 2, 3, 4, 0, 5] rfl rfl ?_
              refine x_goto (tgt := 12) C dX10_readsOn_53 rfl ?_
              obtain ⟨n11, hl12, h⟩ := h
              refine x_sub [0, 1, 2, 3, 4] rfl ?_
              exact ih3 n11 hl12 _ h
            · have h := h.2 c10
              refine x_iload (q := 49) C dX10_readsOn_47 5 rfl rfl ?_
              exact x_iret C dX10_readsOn_49 ⟨rfl, h⟩
          · have h := h.2 c7
            refine x_iload (q := 25) C dX10_readsOn_23 4 rfl rfl ?_
            refine x_goto (tgt := 33) C dX10_readsOn_25 rfl ?_
            refine x_istore (q := 35) (i := 5) (lv' := [(0, .ref (ad 51)), (1, .int (iI a0)), (2, .int (iI a1)), (3, .int (iI a2)), (4, .int (iI v4_3)), (5, .int (iI v4_3))]) C dX10_readsOn_33 (Nat.le_of_ble_eq_true rfl) [1, 2, 3, 4, 5, 0] rfl rfl ?_
            refine x_aload_n (q := 36) (i := 0) C dX10_readsOn_35 rfl 0 rfl rfl ?_
            refine x_iload_n (q := 37) (i := 1) C dX10_readsOn_36 rfl 1 rfl rfl ?_
            refine x_iload_n (q := 38) (i := 2) C dX10_readsOn_37 rfl 2 rfl rfl ?_
            refine x_iload_n (q := 39) (i := 3) C dX10_readsOn_38 rfl 3 rfl rfl ?_
            refine x_iload (q := 41) C dX10_readsOn_39 5 rfl rfl ?_
            refine x_virI (q := 44) C (Nat.le_of_ble_eq_true rfl) ly_51 rfl ck_RX10_122 vk_X10_isReadAt (m_X10_isReadAt l hI h) ⟨⟨rfl, rfl⟩, ⟨Nat.le_of_ble_eq_true rfl, Nat.le_of_ble_eq_true rfl⟩, ⟨Nat.zero_le _, Nat.zero_le _⟩⟩ dX10_readsOn_41 rfl rfl (Nat.le_of_ble_eq_true rfl) rfl (fun z13 σ13 h => ?_)
            rw [h.1]
            have h := h.2
            obtain ⟨o14, h⟩ := h
            refine x_if_eq (q := 47) (tgt := 50) C dX10_readsOn_44 rfl o14 rfl (fun c15 => ?_) (fun c15 => ?_)
            · have h := h.1 c15
              refine x_iinc (q := 53) (z' := v4_3 + 1) (lv' := [(0, .ref (ad 51)), (1, .int (iI a0)), (2, .int (iI a1)), (3, .int (iI a2)), (4, .int (iI (v4_3 + 1))), (5, .int (iI v4_3))]) C dX10_readsOn_50 4 rfl rfl (Nat.le_of_ble_eq_true rfl) [1, 2, 3, 4, 0, 5] rfl rfl ?_
              refine x_goto (tgt := 12) C dX10_readsOn_53 rfl ?_
              obtain ⟨n16, hl17, h⟩ := h
              refine x_sub [0, 1, 2, 3, 4] rfl ?_
              exact ih3 n16 hl17 _ h
            · have h := h.2 c15
              refine x_iload (q := 49) C dX10_readsOn_47 5 rfl rfl ?_
              exact x_iret C dX10_readsOn_49 ⟨rfl, h⟩
    exact L3 n03 0 h03
  · have h := h.2 c2
    refine x_iconst (q := 8) (z := 0) C dX10_readsOn_7 rfl rfl ?_
    exact x_iret C dX10_readsOn_8 ⟨rfl, h⟩
abbrev rm_X10_blade : Room := { frames := 4, cells := 0, slots := 0, locals := 101 }
def vc_X10_blade (σ : GS) (a0 : Int) (a1 : Int) (Post : Int → Prop) : Prop :=
  vc_X10_isBlade σ a0 (fun (z1 : Int) =>
    (rg z1) ∧
  ((¬ z1 = 0 →
    ((rg a1) ∧
    ((a1 < 0 ∨ 5 < a1 →
      (Post (-2))) ∧
    (a1 = 0 →
      ((0 ≤ a0 ∧ a0 < 6) ∧
        (Post (σ 52 a0.toNat)))) ∧
    (a1 = 1 →
      (vc_X10_beginOf σ 0 a0 (fun (z6 : Int) =>
          Post z6))) ∧
    (a1 = 2 →
      (vc_X10_wideOf σ a0 (fun (z7 : Int) =>
          Post z7))) ∧
    (a1 = 3 →
      (vc_X10_cellsSeen σ 0 a0 0 (fun (z8 : Int) =>
          Post z8))) ∧
    (a1 = 4 →
      (vc_X10_cellsSeen σ 0 a0 1 (fun (z9 : Int) =>
          Post z9))) ∧
    (a1 = 5 →
      (vc_X10_isGap σ a0 (fun (z10 : Int) =>
          (rg z10) ∧
        ((z10 = 0 →
          (Post (-9))) ∧
        (¬ z10 = 0 →
          ((0 ≤ a0 ∧ a0 < 10) ∧
          (Post (σ 54 a0.toNat))))))))))) ∧
  (z1 = 0 →
    (Post (-1)))))
set_option maxHeartbeats 4000000 in
set_option maxRecDepth 10000 in
theorem m_X10_blade (l : Launch) {ad : Nat → Nat} {D : va_G} {cI cZ cG : ClassId} (hI : Ij ad) {σ : GS} {a0 : Int} {a1 : Int} {Post : Int → Prop} (h : vc_X10_blade σ a0 a1 Post) : Met l yX10_blade (wX yX10_blade cX10_blade 3 (some .int)) rm_X10_blade (va_Pc [.ref (ad 51), .int (iI a0), .int (iI a1)] (Wd ad D cI cZ cG σ)) (QI ad D cI cZ cG (fun z u => u = σ ∧ Post z)) 0 0 (Aw ad) := by
  refine met_V (own := RX10) hI (by decide +kernel) rfl (Nat.le_of_ble_eq_true rfl) ?_
  intro p e s m args below meth c C
  unfold vc_X10_blade at h
  show V p l e rm_X10_blade s m args below meth c ad D cI cZ cG (Aw ad) 3 0 0 (MQ below (QI ad D cI cZ cG (fun z u => u = σ ∧ Post z)) args s 0 0 (Aw ad)) σ 0 [(0, .ref (ad 51)), (1, .int (iI a0)), (2, .int (iI a1))] []
  refine x_aload_n (q := 1) (i := 0) C dX10_blade_0 rfl 0 rfl rfl ?_
  refine x_iload_n (q := 2) (i := 1) C dX10_blade_1 rfl 1 rfl rfl ?_
  refine x_virI (q := 5) C (Nat.le_of_ble_eq_true rfl) ly_51 rfl ck_RX10_126 vk_X10_isBlade (m_X10_isBlade l hI h) ⟨⟨rfl, rfl⟩, ⟨Nat.le_of_ble_eq_true rfl, Nat.le_of_ble_eq_true rfl⟩, ⟨Nat.zero_le _, Nat.zero_le _⟩⟩ dX10_blade_2 rfl rfl (Nat.le_of_ble_eq_true rfl) rfl (fun z1 σ1 h => ?_)
  rw [h.1]
  have h := h.2
  obtain ⟨o2, h⟩ := h
  refine x_if_ne (q := 8) (tgt := 10) C dX10_blade_5 rfl o2 rfl (fun c3 => ?_) (fun c3 => ?_)
  · have h := h.1 c3
    refine x_iload_n (q := 11) (i := 2) C dX10_blade_10 rfl 2 rfl rfl ?_
    obtain ⟨o4, h⟩ := h
    refine x_table C dX10_blade_11 o4 104 rfl [48, 55, 62, 68, 76, 84] rfl rfl (fun c0 => ?_) (fun i t ht ha => ?_)
    · have h := h.1 c0
      refine x_bipush (q := 106) (z := (-2)) C dX10_blade_104 rfl rfl ?_
      exact x_iret C dX10_blade_106 ⟨rfl, h⟩
    · rcases i with _ | _ | _ | _ | _ | _ | i
      · cases ht
        have h := h.2.1 (by omega)
        refine x_aload_n (q := 49) (i := 0) C dX10_blade_48 rfl 0 rfl rfl ?_
        refine x_getR (q := 52) (c0 := 52) C (Nat.le_of_ble_eq_true rfl) ly_51 fk_RX10_7 rfl dX10_blade_49 rfl ?_
        refine x_iload_n (q := 53) (i := 1) C dX10_blade_52 rfl 1 rfl rfl ?_
        obtain ⟨o5, h⟩ := h
        refine x_iald (q := 54) C (Nat.le_of_ble_eq_true rfl) ly_52 dX10_blade_53 (ix o5 rfl) (Nat.le_of_ble_eq_true rfl) rfl ?_
        exact x_iret C dX10_blade_54 ⟨rfl, h⟩
      · cases ht
        have h := h.2.2.1 (by omega)
        refine x_aload_n (q := 56) (i := 0) C dX10_blade_55 rfl 0 rfl rfl ?_
        refine x_iconst (q := 57) (z := 0) C dX10_blade_56 rfl rfl ?_
        refine x_iload_n (q := 58) (i := 1) C dX10_blade_57 rfl 1 rfl rfl ?_
        refine x_virI (q := 61) C (Nat.le_of_ble_eq_true rfl) ly_51 rfl ck_RX10_97 vk_X10_beginOf (m_X10_beginOf l hI h) ⟨⟨rfl, rfl⟩, ⟨Nat.le_of_ble_eq_true rfl, Nat.le_of_ble_eq_true rfl⟩, ⟨Nat.zero_le _, Nat.zero_le _⟩⟩ dX10_blade_58 rfl rfl (Nat.le_of_ble_eq_true rfl) rfl (fun z6 σ6 h => ?_)
        rw [h.1]
        have h := h.2
        exact x_iret C dX10_blade_61 ⟨rfl, h⟩
      · cases ht
        have h := h.2.2.2.1 (by omega)
        refine x_aload_n (q := 63) (i := 0) C dX10_blade_62 rfl 0 rfl rfl ?_
        refine x_iload_n (q := 64) (i := 1) C dX10_blade_63 rfl 1 rfl rfl ?_
        refine x_virI (q := 67) C (Nat.le_of_ble_eq_true rfl) ly_51 rfl ck_RX10_101 vk_X10_wideOf (m_X10_wideOf l hI h) ⟨⟨rfl, rfl⟩, ⟨Nat.le_of_ble_eq_true rfl, Nat.le_of_ble_eq_true rfl⟩, ⟨Nat.zero_le _, Nat.zero_le _⟩⟩ dX10_blade_64 rfl rfl (Nat.le_of_ble_eq_true rfl) rfl (fun z7 σ7 h => ?_)
        rw [h.1]
        have h := h.2
        exact x_iret C dX10_blade_67 ⟨rfl, h⟩
      · cases ht
        have h := h.2.2.2.2.1 (by omega)
        refine x_aload_n (q := 69) (i := 0) C dX10_blade_68 rfl 0 rfl rfl ?_
        refine x_iconst (q := 70) (z := 0) C dX10_blade_69 rfl rfl ?_
        refine x_iload_n (q := 71) (i := 1) C dX10_blade_70 rfl 1 rfl rfl ?_
        refine x_iconst (q := 72) (z := 0) C dX10_blade_71 rfl rfl ?_
        refine x_virI (q := 75) C (Nat.le_of_ble_eq_true rfl) ly_51 rfl ck_RX10_130 vk_X10_cellsSeen (m_X10_cellsSeen l hI h) ⟨⟨rfl, rfl⟩, ⟨Nat.le_of_ble_eq_true rfl, Nat.le_of_ble_eq_true rfl⟩, ⟨Nat.zero_le _, Nat.zero_le _⟩⟩ dX10_blade_72 rfl rfl (Nat.le_of_ble_eq_true rfl) rfl (fun z8 σ8 h => ?_)
        rw [h.1]
        have h := h.2
        exact x_iret C dX10_blade_75 ⟨rfl, h⟩
      · cases ht
        have h := h.2.2.2.2.2.1 (by omega)
        refine x_aload_n (q := 77) (i := 0) C dX10_blade_76 rfl 0 rfl rfl ?_
        refine x_iconst (q := 78) (z := 0) C dX10_blade_77 rfl rfl ?_
        refine x_iload_n (q := 79) (i := 1) C dX10_blade_78 rfl 1 rfl rfl ?_
        refine x_iconst (q := 80) (z := 1) C dX10_blade_79 rfl rfl ?_
        refine x_virI (q := 83) C (Nat.le_of_ble_eq_true rfl) ly_51 rfl ck_RX10_130 vk_X10_cellsSeen (m_X10_cellsSeen l hI h) ⟨⟨rfl, rfl⟩, ⟨Nat.le_of_ble_eq_true rfl, Nat.le_of_ble_eq_true rfl⟩, ⟨Nat.zero_le _, Nat.zero_le _⟩⟩ dX10_blade_80 rfl rfl (Nat.le_of_ble_eq_true rfl) rfl (fun z9 σ9 h => ?_)
        rw [h.1]
        have h := h.2
        exact x_iret C dX10_blade_83 ⟨rfl, h⟩
      · cases ht
        have h := h.2.2.2.2.2.2 (by omega)
        refine x_aload_n (q := 85) (i := 0) C dX10_blade_84 rfl 0 rfl rfl ?_
        refine x_iload_n (q := 86) (i := 1) C dX10_blade_85 rfl 1 rfl rfl ?_
        refine x_virI (q := 89) C (Nat.le_of_ble_eq_true rfl) ly_51 rfl ck_RX10_133 vk_X10_isGap (m_X10_isGap l hI h) ⟨⟨rfl, rfl⟩, ⟨Nat.le_of_ble_eq_true rfl, Nat.le_of_ble_eq_true rfl⟩, ⟨Nat.zero_le _, Nat.zero_le _⟩⟩ dX10_blade_86 rfl rfl (Nat.le_of_ble_eq_true rfl) rfl (fun z10 σ10 h => ?_)
        rw [h.1]
        have h := h.2
        obtain ⟨o11, h⟩ := h
        refine x_if_eq (q := 92) (tgt := 101) C dX10_blade_89 rfl o11 rfl (fun c12 => ?_) (fun c12 => ?_)
        · have h := h.1 c12
          refine x_bipush (q := 103) (z := (-9)) C dX10_blade_101 rfl rfl ?_
          exact x_iret C dX10_blade_103 ⟨rfl, h⟩
        · have h := h.2 c12
          refine x_aload_n (q := 93) (i := 0) C dX10_blade_92 rfl 0 rfl rfl ?_
          refine x_getR (q := 96) (c0 := 54) C (Nat.le_of_ble_eq_true rfl) ly_51 fk_RX10_16 rfl dX10_blade_93 rfl ?_
          refine x_iload_n (q := 97) (i := 1) C dX10_blade_96 rfl 1 rfl rfl ?_
          obtain ⟨o13, h⟩ := h
          refine x_iald (q := 98) C (Nat.le_of_ble_eq_true rfl) ly_54 dX10_blade_97 (ix o13 rfl) (Nat.le_of_ble_eq_true rfl) rfl ?_
          refine x_goto (tgt := 103) C dX10_blade_98 rfl ?_
          exact x_iret C dX10_blade_103 ⟨rfl, h⟩
      · simp at ht
  · have h := h.2 c3
    refine x_iconst (q := 9) (z := (-1)) C dX10_blade_8 rfl rfl ?_
    exact x_iret C dX10_blade_9 ⟨rfl, h⟩
abbrev rm_X10_look : Room := { frames := 4, cells := 0, slots := 0, locals := 101 }
def vc_X10_look (σ : GS) (a0 : Int) (a1 : Int) (a2 : Int) (Post : Int → Prop) : Prop :=
  (rg a0) ∧
  (vc_X10_in σ a0 0 27 (fun (z2 : Int) =>
    (rg z2) ∧
  ((¬ z2 = 0 →
    ((rg a1) ∧
    (vc_X10_in σ a1 0 1 (fun (z6 : Int) =>
      (rg z6) ∧
    ((z6 = 0 →
      (Post (-2))) ∧
    (¬ z6 = 0 →
      ((rg a2) ∧
      (vc_X10_in σ a2 0 1 (fun (z10 : Int) =>
        (rg z10) ∧
      ((¬ z10 = 0 →
        (vc_X10_letterAt σ 0 63 a0 a1 (fun (z13 : Int) =>
          (¬ a2 = 1 →
          ((rg z13) ∧
          ((¬ z13 = (-9) →
            (Post (z13 + 97))) ∧
          (z13 = (-9) →
            (Post (-9)))))) ∧
        (a2 = 1 →
          (vc_X10_bladeAt σ 0 63 a0 a1 (fun (z17 : Int) =>
            Post z17)))))) ∧
      (z10 = 0 →
        (Post (-2))))))))))))) ∧
  (z2 = 0 →
    (Post (-1))))))
set_option maxHeartbeats 4000000 in
set_option maxRecDepth 10000 in
theorem m_X10_look (l : Launch) {ad : Nat → Nat} {D : va_G} {cI cZ cG : ClassId} (hI : Ij ad) {σ : GS} {a0 : Int} {a1 : Int} {a2 : Int} {Post : Int → Prop} (h : vc_X10_look σ a0 a1 a2 Post) : Met l yX10_look (wX yX10_look cX10_look 5 (some .int)) rm_X10_look (va_Pc [.ref (ad 51), .int (iI a0), .int (iI a1), .int (iI a2)] (Wd ad D cI cZ cG σ)) (QI ad D cI cZ cG (fun z u => u = σ ∧ Post z)) 0 0 (Aw ad) := by
  refine met_V (own := RX10) hI (by decide +kernel) rfl (Nat.le_of_ble_eq_true rfl) ?_
  intro p e s m args below meth c C
  unfold vc_X10_look at h
  show V p l e rm_X10_look s m args below meth c ad D cI cZ cG (Aw ad) 5 0 0 (MQ below (QI ad D cI cZ cG (fun z u => u = σ ∧ Post z)) args s 0 0 (Aw ad)) σ 0 [(0, .ref (ad 51)), (1, .int (iI a0)), (2, .int (iI a1)), (3, .int (iI a2))] []
  refine x_iload_n (q := 1) (i := 1) C dX10_look_0 rfl 1 rfl rfl ?_
  obtain ⟨o1, h⟩ := h
  refine x_i2l (q := 2) C dX10_look_1 o1 rfl ?_
  refine x_lconst (q := 3) (z := 0) C dX10_look_2 rfl rfl ?_
  refine x_ldc2 (q := 6) (z := 27) C dX10_look_3 t4_108 rfl rfl ?_
  refine x_staI (q := 9) C ck_RX10_52 t4_33 (m_X10_in l hI h) ⟨⟨rfl, rfl⟩, ⟨Nat.le_of_ble_eq_true rfl, Nat.le_of_ble_eq_true rfl⟩, ⟨Nat.zero_le _, Nat.zero_le _⟩⟩ dX10_look_6 rfl rfl (Nat.le_of_ble_eq_true rfl) rfl (fun z2 σ2 h => ?_)
  rw [h.1]
  have h := h.2
  obtain ⟨o3, h⟩ := h
  refine x_if_ne (q := 12) (tgt := 14) C dX10_look_9 rfl o3 rfl (fun c4 => ?_) (fun c4 => ?_)
  · have h := h.1 c4
    refine x_iload_n (q := 15) (i := 2) C dX10_look_14 rfl 2 rfl rfl ?_
    obtain ⟨o5, h⟩ := h
    refine x_i2l (q := 16) C dX10_look_15 o5 rfl ?_
    refine x_lconst (q := 17) (z := 0) C dX10_look_16 rfl rfl ?_
    refine x_lconst (q := 18) (z := 1) C dX10_look_17 rfl rfl ?_
    refine x_staI (q := 21) C ck_RX10_52 t4_33 (m_X10_in l hI h) ⟨⟨rfl, rfl⟩, ⟨Nat.le_of_ble_eq_true rfl, Nat.le_of_ble_eq_true rfl⟩, ⟨Nat.zero_le _, Nat.zero_le _⟩⟩ dX10_look_18 rfl rfl (Nat.le_of_ble_eq_true rfl) rfl (fun z6 σ6 h => ?_)
    rw [h.1]
    have h := h.2
    obtain ⟨o7, h⟩ := h
    refine x_if_eq (q := 24) (tgt := 34) C dX10_look_21 rfl o7 rfl (fun c8 => ?_) (fun c8 => ?_)
    · have h := h.1 c8
      refine x_bipush (q := 36) (z := (-2)) C dX10_look_34 rfl rfl ?_
      exact x_iret C dX10_look_36 ⟨rfl, h⟩
    · have h := h.2 c8
      refine x_iload_n (q := 25) (i := 3) C dX10_look_24 rfl 3 rfl rfl ?_
      obtain ⟨o9, h⟩ := h
      refine x_i2l (q := 26) C dX10_look_25 o9 rfl ?_
      refine x_lconst (q := 27) (z := 0) C dX10_look_26 rfl rfl ?_
      refine x_lconst (q := 28) (z := 1) C dX10_look_27 rfl rfl ?_
      refine x_staI (q := 31) C ck_RX10_52 t4_33 (m_X10_in l hI h) ⟨⟨rfl, rfl⟩, ⟨Nat.le_of_ble_eq_true rfl, Nat.le_of_ble_eq_true rfl⟩, ⟨Nat.zero_le _, Nat.zero_le _⟩⟩ dX10_look_28 rfl rfl (Nat.le_of_ble_eq_true rfl) rfl (fun z10 σ10 h => ?_)
      rw [h.1]
      have h := h.2
      obtain ⟨o11, h⟩ := h
      refine x_if_ne (q := 34) (tgt := 37) C dX10_look_31 rfl o11 rfl (fun c12 => ?_) (fun c12 => ?_)
      · have h := h.1 c12
        refine x_aload_n (q := 38) (i := 0) C dX10_look_37 rfl 0 rfl rfl ?_
        refine x_iconst (q := 39) (z := 0) C dX10_look_38 rfl rfl ?_
        refine x_bipush (q := 41) (z := 63) C dX10_look_39 rfl rfl ?_
        refine x_iload_n (q := 42) (i := 1) C dX10_look_41 rfl 1 rfl rfl ?_
        refine x_iload_n (q := 43) (i := 2) C dX10_look_42 rfl 2 rfl rfl ?_
        refine x_virI (q := 46) C (Nat.le_of_ble_eq_true rfl) ly_51 rfl ck_RX10_119 vk_X10_letterAt (m_X10_letterAt l hI h) ⟨⟨rfl, rfl⟩, ⟨Nat.le_of_ble_eq_true rfl, Nat.le_of_ble_eq_true rfl⟩, ⟨Nat.zero_le _, Nat.zero_le _⟩⟩ dX10_look_43 rfl rfl (Nat.le_of_ble_eq_true rfl) rfl (fun z13 σ13 h => ?_)
        rw [h.1]
        have h := h.2
        refine x_istore (q := 48) (i := 4) (lv' := [(0, .ref (ad 51)), (1, .int (iI a0)), (2, .int (iI a1)), (3, .int (iI a2)), (4, .int (iI z13))]) C dX10_look_46 (Nat.le_of_ble_eq_true rfl) [1, 2, 3, 4, 0] rfl rfl ?_
        refine x_iload_n (q := 49) (i := 3) C dX10_look_48 rfl 3 rfl rfl ?_
        refine x_iconst (q := 50) (z := 1) C dX10_look_49 rfl rfl ?_
        refine x_icmp_ne (q := 53) (tgt := 65) C dX10_look_50 rfl ⟨o9, by decide⟩ rfl (fun c14 => ?_) (fun c14 => ?_)
        · have h := h.1 c14
          refine x_iload (q := 67) C dX10_look_65 4 rfl rfl ?_
          refine x_bipush (q := 69) (z := (-9)) C dX10_look_67 rfl rfl ?_
          obtain ⟨o15, h⟩ := h
          refine x_icmp_ne (q := 72) (tgt := 77) C dX10_look_69 rfl ⟨o15, by decide⟩ rfl (fun c16 => ?_) (fun c16 => ?_)
          · have h := h.1 c16
            refine x_iload (q := 79) C dX10_look_77 4 rfl rfl ?_
            refine x_bipush (q := 81) (z := 97) C dX10_look_79 rfl rfl ?_
            refine x_iadd (q := 82) C dX10_look_81  rfl ?_
            exact x_iret C dX10_look_82 ⟨rfl, h⟩
          · have h := h.2 c16
            refine x_bipush (q := 74) (z := (-9)) C dX10_look_72 rfl rfl ?_
            refine x_goto (tgt := 82) C dX10_look_74 rfl ?_
            exact x_iret C dX10_look_82 ⟨rfl, h⟩
        · have h := h.2 c14
          refine x_aload_n (q := 54) (i := 0) C dX10_look_53 rfl 0 rfl rfl ?_
          refine x_iconst (q := 55) (z := 0) C dX10_look_54 rfl rfl ?_
          refine x_bipush (q := 57) (z := 63) C dX10_look_55 rfl rfl ?_
          refine x_iload_n (q := 58) (i := 1) C dX10_look_57 rfl 1 rfl rfl ?_
          refine x_iload_n (q := 59) (i := 2) C dX10_look_58 rfl 2 rfl rfl ?_
          refine x_virI (q := 62) C (Nat.le_of_ble_eq_true rfl) ly_51 rfl ck_RX10_115 vk_X10_bladeAt (m_X10_bladeAt l hI h) ⟨⟨rfl, rfl⟩, ⟨Nat.le_of_ble_eq_true rfl, Nat.le_of_ble_eq_true rfl⟩, ⟨Nat.zero_le _, Nat.zero_le _⟩⟩ dX10_look_59 rfl rfl (Nat.le_of_ble_eq_true rfl) rfl (fun z17 σ17 h => ?_)
          rw [h.1]
          have h := h.2
          refine x_goto (tgt := 82) C dX10_look_62 rfl ?_
          exact x_iret C dX10_look_82 ⟨rfl, h⟩
      · have h := h.2 c12
        refine x_bipush (q := 36) (z := (-2)) C dX10_look_34 rfl rfl ?_
        exact x_iret C dX10_look_36 ⟨rfl, h⟩
  · have h := h.2 c4
    refine x_iconst (q := 13) (z := (-1)) C dX10_look_12 rfl rfl ?_
    exact x_iret C dX10_look_13 ⟨rfl, h⟩
abbrev rm_X10_keepAct : Room := { frames := 0, cells := 0, slots := 0, locals := 0 }
def vc_X10_keepAct (σ : GS)  (Post : GS → Prop) : Prop :=
  ∃ I1 : Nat → Int → GS → Prop, (∃ n : Nat, I1 n 0 σ) ∧ ∀ (n1 : Nat) (v1_1 : Int) (σ1 : GS), I1 n1 v1_1 σ1 →
  ((rg v1_1) ∧
      (((5 : Int) ≤ v1_1 →
        ((0 ≤ ((σ1 51 12) + 1) ∧ ((σ1 51 12) + 1) ≤ 2147483647) ∧
        ((rg ((up2 σ1 51 12 (((σ1 51 12) + 1) % 14)) 51 11)) ∧
        (((14 : Int) ≤ ((up2 σ1 51 12 (((σ1 51 12) + 1) % 14)) 51 11) →
          (Post (up2 (up2 σ1 51 12 (((σ1 51 12) + 1) % 14)) 51 11 14))) ∧
        (¬ (14 : Int) ≤ ((up2 σ1 51 12 (((σ1 51 12) + 1) % 14)) 51 11) →
          (Post (up2 (up2 σ1 51 12 (((σ1 51 12) + 1) % 14)) 51 11 (((up2 σ1 51 12 (((σ1 51 12) + 1) % 14)) 51 11) + 1)))))))) ∧
      (¬ (5 : Int) ≤ v1_1 →
        ((0 ≤ v1_1 ∧ v1_1 < 10) ∧
        ((0 ≤ ((5 * (σ1 51 12)) + v1_1) ∧ ((5 * (σ1 51 12)) + v1_1) < 70) ∧
        (∃ n' : Nat, n' < n1 ∧ I1 n' (v1_1 + 1) (up2 σ1 59 ((5 * (σ1 51 12)) + v1_1).toNat (σ1 54 v1_1.toNat))))))))
set_option maxHeartbeats 4000000 in
set_option maxRecDepth 10000 in
theorem m_X10_keepAct (l : Launch) {ad : Nat → Nat} {D : va_G} {cI cZ cG : ClassId} (hI : Ij ad) {σ : GS}  {Post : GS → Prop} (h : vc_X10_keepAct σ  Post) : Met l yX10_keepAct (wX yX10_keepAct cX10_keepAct 2 none) rm_X10_keepAct (va_Pc [.ref (ad 51)] (Wd ad D cI cZ cG σ)) (QV ad D cI cZ cG Post) 0 0 (Aw ad) := by
  refine met_V (own := RX10) hI (by decide +kernel) rfl (Nat.le_of_ble_eq_true rfl) ?_
  intro p e s m args below meth c C
  unfold vc_X10_keepAct at h
  show V p l e rm_X10_keepAct s m args below meth c ad D cI cZ cG (Aw ad) 2 0 0 (MQ below (QV ad D cI cZ cG Post) args s 0 0 (Aw ad)) σ 0 [(0, .ref (ad 51))] []
  refine x_iconst (q := 1) (z := 0) C dX10_keepAct_0 rfl rfl ?_
  refine x_istore_n (q := 2) (i := 1) (lv' := [(0, .ref (ad 51)), (1, .int (iI 0))]) C dX10_keepAct_1 rfl (Nat.le_of_ble_eq_true rfl) [1, 0] rfl rfl ?_
  obtain ⟨I1, ⟨n01, h01⟩, hs1⟩ := h
  have L1 : ∀ (n1 : Nat) (v1_1 : Int) (σ1 : GS), I1 n1 v1_1 σ1 → V p l e rm_X10_keepAct s m args below meth c ad D cI cZ cG (Aw ad) 2 0 0 (MQ below (QV ad D cI cZ cG Post) args s 0 0 (Aw ad)) σ1 2 [(0, .ref (ad 51)), (1, .int (iI v1_1))] [] := by
    intro n1
    induction n1 using Nat.strongRecOn with
    | ind n1 ih1 =>
      intro v1_1 σ1 h
      have h := hs1 n1 v1_1 σ1 h
      refine x_iload_n (q := 3) (i := 1) C dX10_keepAct_2 rfl 1 rfl rfl ?_
      refine x_iconst (q := 4) (z := 5) C dX10_keepAct_3 rfl rfl ?_
      obtain ⟨o2, h⟩ := h
      refine x_icmp_ge (q := 7) (tgt := 32) C dX10_keepAct_4 rfl ⟨o2, by decide⟩ rfl (fun c3 => ?_) (fun c3 => ?_)
      · have h := h.1 c3
        refine x_aload_n (q := 33) (i := 0) C dX10_keepAct_32 rfl 0 rfl rfl ?_
        refine x_aload_n (q := 34) (i := 0) C dX10_keepAct_33 rfl 0 rfl rfl ?_
        refine x_getI (q := 37) C (Nat.le_of_ble_eq_true rfl) ly_51 fk_RX10_136 rfl dX10_keepAct_34 rfl ?_
        refine x_iconst (q := 38) (z := 1) C dX10_keepAct_37 rfl rfl ?_
        refine x_iadd (q := 39) C dX10_keepAct_38  rfl ?_
        refine x_bipush (q := 41) (z := 14) C dX10_keepAct_39 rfl rfl ?_
        obtain ⟨o4, h⟩ := h
        refine x_irem (q := 42) C dX10_keepAct_41 ⟨o4, by decide⟩ rfl ?_
        refine x_putI (q := 45) C (Nat.le_of_ble_eq_true rfl) ly_51 fk_RX10_136 rfl tyX10 tyX10_ok nmX10 rfl (tyX10_ok 12 (Nat.le_of_ble_eq_true rfl)) dX10_keepAct_42 rfl ?_
        refine x_aload_n (q := 46) (i := 0) C dX10_keepAct_45 rfl 0 rfl rfl ?_
        refine x_aload_n (q := 47) (i := 0) C dX10_keepAct_46 rfl 0 rfl rfl ?_
        refine x_getI (q := 50) C (Nat.le_of_ble_eq_true rfl) ly_51 fk_RX10_78 rfl dX10_keepAct_47 rfl ?_
        refine x_bipush (q := 52) (z := 14) C dX10_keepAct_50 rfl rfl ?_
        obtain ⟨o5, h⟩ := h
        refine x_icmp_ge (q := 55) (tgt := 64) C dX10_keepAct_52 rfl ⟨o5, by decide⟩ rfl (fun c6 => ?_) (fun c6 => ?_)
        · have h := h.1 c6
          refine x_bipush (q := 66) (z := 14) C dX10_keepAct_64 rfl rfl ?_
          refine x_putI (q := 69) C (Nat.le_of_ble_eq_true rfl) ly_51 fk_RX10_78 rfl tyX10 tyX10_ok nmX10 rfl (tyX10_ok 11 (Nat.le_of_ble_eq_true rfl)) dX10_keepAct_66 rfl ?_
          exact x_vret C dX10_keepAct_69 h
        · have h := h.2 c6
          refine x_aload_n (q := 56) (i := 0) C dX10_keepAct_55 rfl 0 rfl rfl ?_
          refine x_getI (q := 59) C (Nat.le_of_ble_eq_true rfl) ly_51 fk_RX10_78 rfl dX10_keepAct_56 rfl ?_
          refine x_iconst (q := 60) (z := 1) C dX10_keepAct_59 rfl rfl ?_
          refine x_iadd (q := 61) C dX10_keepAct_60  rfl ?_
          refine x_goto (tgt := 66) C dX10_keepAct_61 rfl ?_
          refine x_putI (q := 69) C (Nat.le_of_ble_eq_true rfl) ly_51 fk_RX10_78 rfl tyX10 tyX10_ok nmX10 rfl (tyX10_ok 11 (Nat.le_of_ble_eq_true rfl)) dX10_keepAct_66 rfl ?_
          exact x_vret C dX10_keepAct_69 h
      · have h := h.2 c3
        refine x_aload_n (q := 8) (i := 0) C dX10_keepAct_7 rfl 0 rfl rfl ?_
        refine x_getR (q := 11) (c0 := 59) C (Nat.le_of_ble_eq_true rfl) ly_51 fk_RX10_31 rfl dX10_keepAct_8 rfl ?_
        refine x_iconst (q := 12) (z := 5) C dX10_keepAct_11 rfl rfl ?_
        refine x_aload_n (q := 13) (i := 0) C dX10_keepAct_12 rfl 0 rfl rfl ?_
        refine x_getI (q := 16) C (Nat.le_of_ble_eq_true rfl) ly_51 fk_RX10_136 rfl dX10_keepAct_13 rfl ?_
        refine x_imul (q := 17) C dX10_keepAct_16  rfl ?_
        refine x_iload_n (q := 18) (i := 1) C dX10_keepAct_17 rfl 1 rfl rfl ?_
        refine x_iadd (q := 19) C dX10_keepAct_18  rfl ?_
        refine x_aload_n (q := 20) (i := 0) C dX10_keepAct_19 rfl 0 rfl rfl ?_
        refine x_getR (q := 23) (c0 := 54) C (Nat.le_of_ble_eq_true rfl) ly_51 fk_RX10_16 rfl dX10_keepAct_20 rfl ?_
        refine x_iload_n (q := 24) (i := 1) C dX10_keepAct_23 rfl 1 rfl rfl ?_
        obtain ⟨o7, h⟩ := h
        refine x_iald (q := 25) C (Nat.le_of_ble_eq_true rfl) ly_54 dX10_keepAct_24 (ix o7 rfl) (Nat.le_of_ble_eq_true rfl) rfl ?_
        obtain ⟨o8, h⟩ := h
        refine x_iast (q := 26) C (Nat.le_of_ble_eq_true rfl) ly_59 dX10_keepAct_25 (ix o8 rfl) (Nat.le_of_ble_eq_true rfl)  rfl ?_
        refine x_iinc (q := 29) (z' := v1_1 + 1) (lv' := [(0, .ref (ad 51)), (1, .int (iI (v1_1 + 1)))]) C dX10_keepAct_26 1 rfl rfl (Nat.le_of_ble_eq_true rfl) [1, 0] rfl rfl ?_
        refine x_goto (tgt := 2) C dX10_keepAct_29 rfl ?_
        obtain ⟨n9, hl10, h⟩ := h
        refine x_sub [0, 1] rfl ?_
        exact ih1 n9 hl10 _ _ h
  exact L1 n01 0 σ h01
abbrev rm_X10_canSpread : Room := { frames := 2, cells := 0, slots := 0, locals := 46 }
def vc_X10_canSpread (σ : GS) (a0 : Int) (a1 : Int) (Post : Int → Prop) : Prop :=
  vc_X10_isGap σ a1 (fun (z1 : Int) =>
    (rg z1) ∧
  ((z1 = 0 →
    (Post 0)) ∧
  (¬ z1 = 0 →
    (vc_X10_isFree σ a1 (fun (z4 : Int) =>
      (rg z4) ∧
    ((z4 = 0 →
      (Post 0)) ∧
    (¬ z4 = 0 →
      ((0 ≤ ((5 * a0) + a1) ∧ ((5 * a0) + a1) < 10) ∧
      ((rg (σ 54 ((5 * a0) + a1).toNat)) ∧
      (((4 : Int) ≤ (σ 54 ((5 * a0) + a1).toNat) →
        (Post 0)) ∧
      (¬ (4 : Int) ≤ (σ 54 ((5 * a0) + a1).toNat) →
        (Post 1))))))))))))
set_option maxHeartbeats 4000000 in
set_option maxRecDepth 10000 in
theorem m_X10_canSpread (l : Launch) {ad : Nat → Nat} {D : va_G} {cI cZ cG : ClassId} (hI : Ij ad) {σ : GS} {a0 : Int} {a1 : Int} {Post : Int → Prop} (h : vc_X10_canSpread σ a0 a1 Post) : Met l yX10_canSpread (wX yX10_canSpread cX10_canSpread 3 (some .boolean)) rm_X10_canSpread (va_Pc [.ref (ad 51), .int (iI a0), .int (iI a1)] (Wd ad D cI cZ cG σ)) (QI ad D cI cZ cG (fun z u => u = σ ∧ Post z)) 0 0 (Aw ad) := by
  refine met_V (own := RX10) hI (by decide +kernel) rfl (Nat.le_of_ble_eq_true rfl) ?_
  intro p e s m args below meth c C
  unfold vc_X10_canSpread at h
  show V p l e rm_X10_canSpread s m args below meth c ad D cI cZ cG (Aw ad) 3 0 0 (MQ below (QI ad D cI cZ cG (fun z u => u = σ ∧ Post z)) args s 0 0 (Aw ad)) σ 0 [(0, .ref (ad 51)), (1, .int (iI a0)), (2, .int (iI a1))] []
  refine x_aload_n (q := 1) (i := 0) C dX10_canSpread_0 rfl 0 rfl rfl ?_
  refine x_iload_n (q := 2) (i := 2) C dX10_canSpread_1 rfl 2 rfl rfl ?_
  refine x_virI (q := 5) C (Nat.le_of_ble_eq_true rfl) ly_51 rfl ck_RX10_133 vk_X10_isGap (m_X10_isGap l hI h) ⟨⟨rfl, rfl⟩, ⟨Nat.le_of_ble_eq_true rfl, Nat.le_of_ble_eq_true rfl⟩, ⟨Nat.zero_le _, Nat.zero_le _⟩⟩ dX10_canSpread_2 rfl rfl (Nat.le_of_ble_eq_true rfl) rfl (fun z1 σ1 h => ?_)
  rw [h.1]
  have h := h.2
  obtain ⟨o2, h⟩ := h
  refine x_if_eq (q := 8) (tgt := 34) C dX10_canSpread_5 rfl o2 rfl (fun c3 => ?_) (fun c3 => ?_)
  · have h := h.1 c3
    refine x_iconst (q := 35) (z := 0) C dX10_canSpread_34 rfl rfl ?_
    exact x_zret C dX10_canSpread_35 (by decide) ⟨rfl, h⟩
  · have h := h.2 c3
    refine x_aload_n (q := 9) (i := 0) C dX10_canSpread_8 rfl 0 rfl rfl ?_
    refine x_iload_n (q := 10) (i := 2) C dX10_canSpread_9 rfl 2 rfl rfl ?_
    refine x_virI (q := 13) C (Nat.le_of_ble_eq_true rfl) ly_51 rfl ck_RX10_139 vk_X10_isFree (m_X10_isFree l hI h) ⟨⟨rfl, rfl⟩, ⟨Nat.le_of_ble_eq_true rfl, Nat.le_of_ble_eq_true rfl⟩, ⟨Nat.zero_le _, Nat.zero_le _⟩⟩ dX10_canSpread_10 rfl rfl (Nat.le_of_ble_eq_true rfl) rfl (fun z4 σ4 h => ?_)
    rw [h.1]
    have h := h.2
    obtain ⟨o5, h⟩ := h
    refine x_if_eq (q := 16) (tgt := 34) C dX10_canSpread_13 rfl o5 rfl (fun c6 => ?_) (fun c6 => ?_)
    · have h := h.1 c6
      refine x_iconst (q := 35) (z := 0) C dX10_canSpread_34 rfl rfl ?_
      exact x_zret C dX10_canSpread_35 (by decide) ⟨rfl, h⟩
    · have h := h.2 c6
      refine x_aload_n (q := 17) (i := 0) C dX10_canSpread_16 rfl 0 rfl rfl ?_
      refine x_getR (q := 20) (c0 := 54) C (Nat.le_of_ble_eq_true rfl) ly_51 fk_RX10_16 rfl dX10_canSpread_17 rfl ?_
      refine x_iconst (q := 21) (z := 5) C dX10_canSpread_20 rfl rfl ?_
      refine x_iload_n (q := 22) (i := 1) C dX10_canSpread_21 rfl 1 rfl rfl ?_
      refine x_imul (q := 23) C dX10_canSpread_22  rfl ?_
      refine x_iload_n (q := 24) (i := 2) C dX10_canSpread_23 rfl 2 rfl rfl ?_
      refine x_iadd (q := 25) C dX10_canSpread_24  rfl ?_
      obtain ⟨o7, h⟩ := h
      refine x_iald (q := 26) C (Nat.le_of_ble_eq_true rfl) ly_54 dX10_canSpread_25 (ix o7 rfl) (Nat.le_of_ble_eq_true rfl) rfl ?_
      refine x_iconst (q := 27) (z := 4) C dX10_canSpread_26 rfl rfl ?_
      obtain ⟨o8, h⟩ := h
      refine x_icmp_ge (q := 30) (tgt := 34) C dX10_canSpread_27 rfl ⟨o8, by decide⟩ rfl (fun c9 => ?_) (fun c9 => ?_)
      · have h := h.1 c9
        refine x_iconst (q := 35) (z := 0) C dX10_canSpread_34 rfl rfl ?_
        exact x_zret C dX10_canSpread_35 (by decide) ⟨rfl, h⟩
      · have h := h.2 c9
        refine x_iconst (q := 31) (z := 1) C dX10_canSpread_30 rfl rfl ?_
        refine x_goto (tgt := 35) C dX10_canSpread_31 rfl ?_
        exact x_zret C dX10_canSpread_35 (by decide) ⟨rfl, h⟩
abbrev rm_X10_canFold : Room := { frames := 2, cells := 0, slots := 0, locals := 46 }
def vc_X10_canFold (σ : GS) (a0 : Int) (a1 : Int) (Post : Int → Prop) : Prop :=
  vc_X10_isGap σ a1 (fun (z1 : Int) =>
    (rg z1) ∧
  ((z1 = 0 →
    (Post 0)) ∧
  (¬ z1 = 0 →
    (vc_X10_isFree σ a1 (fun (z4 : Int) =>
      (rg z4) ∧
    ((z4 = 0 →
      (Post 0)) ∧
    (¬ z4 = 0 →
      ((0 ≤ ((5 * a0) + a1) ∧ ((5 * a0) + a1) < 10) ∧
      ((rg (σ 54 ((5 * a0) + a1).toNat)) ∧
      (((σ 54 ((5 * a0) + a1).toNat) ≤ 0 →
        (Post 0)) ∧
      (¬ (σ 54 ((5 * a0) + a1).toNat) ≤ 0 →
        (Post 1))))))))))))
set_option maxHeartbeats 4000000 in
set_option maxRecDepth 10000 in
theorem m_X10_canFold (l : Launch) {ad : Nat → Nat} {D : va_G} {cI cZ cG : ClassId} (hI : Ij ad) {σ : GS} {a0 : Int} {a1 : Int} {Post : Int → Prop} (h : vc_X10_canFold σ a0 a1 Post) : Met l yX10_canFold (wX yX10_canFold cX10_canFold 3 (some .boolean)) rm_X10_canFold (va_Pc [.ref (ad 51), .int (iI a0), .int (iI a1)] (Wd ad D cI cZ cG σ)) (QI ad D cI cZ cG (fun z u => u = σ ∧ Post z)) 0 0 (Aw ad) := by
  refine met_V (own := RX10) hI (by decide +kernel) rfl (Nat.le_of_ble_eq_true rfl) ?_
  intro p e s m args below meth c C
  unfold vc_X10_canFold at h
  show V p l e rm_X10_canFold s m args below meth c ad D cI cZ cG (Aw ad) 3 0 0 (MQ below (QI ad D cI cZ cG (fun z u => u = σ ∧ Post z)) args s 0 0 (Aw ad)) σ 0 [(0, .ref (ad 51)), (1, .int (iI a0)), (2, .int (iI a1))] []
  refine x_aload_n (q := 1) (i := 0) C dX10_canFold_0 rfl 0 rfl rfl ?_
  refine x_iload_n (q := 2) (i := 2) C dX10_canFold_1 rfl 2 rfl rfl ?_
  refine x_virI (q := 5) C (Nat.le_of_ble_eq_true rfl) ly_51 rfl ck_RX10_133 vk_X10_isGap (m_X10_isGap l hI h) ⟨⟨rfl, rfl⟩, ⟨Nat.le_of_ble_eq_true rfl, Nat.le_of_ble_eq_true rfl⟩, ⟨Nat.zero_le _, Nat.zero_le _⟩⟩ dX10_canFold_2 rfl rfl (Nat.le_of_ble_eq_true rfl) rfl (fun z1 σ1 h => ?_)
  rw [h.1]
  have h := h.2
  obtain ⟨o2, h⟩ := h
  refine x_if_eq (q := 8) (tgt := 33) C dX10_canFold_5 rfl o2 rfl (fun c3 => ?_) (fun c3 => ?_)
  · have h := h.1 c3
    refine x_iconst (q := 34) (z := 0) C dX10_canFold_33 rfl rfl ?_
    exact x_zret C dX10_canFold_34 (by decide) ⟨rfl, h⟩
  · have h := h.2 c3
    refine x_aload_n (q := 9) (i := 0) C dX10_canFold_8 rfl 0 rfl rfl ?_
    refine x_iload_n (q := 10) (i := 2) C dX10_canFold_9 rfl 2 rfl rfl ?_
    refine x_virI (q := 13) C (Nat.le_of_ble_eq_true rfl) ly_51 rfl ck_RX10_139 vk_X10_isFree (m_X10_isFree l hI h) ⟨⟨rfl, rfl⟩, ⟨Nat.le_of_ble_eq_true rfl, Nat.le_of_ble_eq_true rfl⟩, ⟨Nat.zero_le _, Nat.zero_le _⟩⟩ dX10_canFold_10 rfl rfl (Nat.le_of_ble_eq_true rfl) rfl (fun z4 σ4 h => ?_)
    rw [h.1]
    have h := h.2
    obtain ⟨o5, h⟩ := h
    refine x_if_eq (q := 16) (tgt := 33) C dX10_canFold_13 rfl o5 rfl (fun c6 => ?_) (fun c6 => ?_)
    · have h := h.1 c6
      refine x_iconst (q := 34) (z := 0) C dX10_canFold_33 rfl rfl ?_
      exact x_zret C dX10_canFold_34 (by decide) ⟨rfl, h⟩
    · have h := h.2 c6
      refine x_aload_n (q := 17) (i := 0) C dX10_canFold_16 rfl 0 rfl rfl ?_
      refine x_getR (q := 20) (c0 := 54) C (Nat.le_of_ble_eq_true rfl) ly_51 fk_RX10_16 rfl dX10_canFold_17 rfl ?_
      refine x_iconst (q := 21) (z := 5) C dX10_canFold_20 rfl rfl ?_
      refine x_iload_n (q := 22) (i := 1) C dX10_canFold_21 rfl 1 rfl rfl ?_
      refine x_imul (q := 23) C dX10_canFold_22  rfl ?_
      refine x_iload_n (q := 24) (i := 2) C dX10_canFold_23 rfl 2 rfl rfl ?_
      refine x_iadd (q := 25) C dX10_canFold_24  rfl ?_
      obtain ⟨o7, h⟩ := h
      refine x_iald (q := 26) C (Nat.le_of_ble_eq_true rfl) ly_54 dX10_canFold_25 (ix o7 rfl) (Nat.le_of_ble_eq_true rfl) rfl ?_
      obtain ⟨o8, h⟩ := h
      refine x_if_le (q := 29) (tgt := 33) C dX10_canFold_26 rfl o8 rfl (fun c9 => ?_) (fun c9 => ?_)
      · have h := h.1 c9
        refine x_iconst (q := 34) (z := 0) C dX10_canFold_33 rfl rfl ?_
        exact x_zret C dX10_canFold_34 (by decide) ⟨rfl, h⟩
      · have h := h.2 c9
        refine x_iconst (q := 30) (z := 1) C dX10_canFold_29 rfl rfl ?_
        refine x_goto (tgt := 34) C dX10_canFold_30 rfl ?_
        exact x_zret C dX10_canFold_34 (by decide) ⟨rfl, h⟩
abbrev rm_X10_spread : Room := { frames := 3, cells := 0, slots := 0, locals := 68 }
def vc_X10_spread (σ : GS) (a0 : Int) (Post : Int → GS → Prop) : Prop :=
  vc_X10_isGap σ a0 (fun (z1 : Int) =>
    (rg z1) ∧
  ((¬ z1 = 0 →
    (vc_X10_canSpread σ 0 a0 (fun (z4 : Int) =>
      (rg z4) ∧
    ((¬ z4 = 0 →
      (vc_X10_keepAct σ  (fun (σ7 : GS) =>
        (0 ≤ a0 ∧ a0 < 10) ∧
      (Post ((up2 σ7 54 a0.toNat ((σ7 54 a0.toNat) + 1)) 54 a0.toNat) (up2 σ7 54 a0.toNat ((σ7 54 a0.toNat) + 1)))))) ∧
    (z4 = 0 →
      (Post (-3) σ)))))) ∧
  (z1 = 0 →
    (Post (-1) σ))))
set_option maxHeartbeats 4000000 in
set_option maxRecDepth 10000 in
theorem m_X10_spread (l : Launch) {ad : Nat → Nat} {D : va_G} {cI cZ cG : ClassId} (hI : Ij ad) {σ : GS} {a0 : Int} {Post : Int → GS → Prop} (h : vc_X10_spread σ a0 Post) : Met l yX10_spread (wX yX10_spread cX10_spread 2 (some .int)) rm_X10_spread (va_Pc [.ref (ad 51), .int (iI a0)] (Wd ad D cI cZ cG σ)) (QI ad D cI cZ cG Post) 0 0 (Aw ad) := by
  refine met_V (own := RX10) hI (by decide +kernel) rfl (Nat.le_of_ble_eq_true rfl) ?_
  intro p e s m args below meth c C
  unfold vc_X10_spread at h
  show V p l e rm_X10_spread s m args below meth c ad D cI cZ cG (Aw ad) 2 0 0 (MQ below (QI ad D cI cZ cG Post) args s 0 0 (Aw ad)) σ 0 [(0, .ref (ad 51)), (1, .int (iI a0))] []
  refine x_aload_n (q := 1) (i := 0) C dX10_spread_0 rfl 0 rfl rfl ?_
  refine x_iload_n (q := 2) (i := 1) C dX10_spread_1 rfl 1 rfl rfl ?_
  refine x_virI (q := 5) C (Nat.le_of_ble_eq_true rfl) ly_51 rfl ck_RX10_133 vk_X10_isGap (m_X10_isGap l hI h) ⟨⟨rfl, rfl⟩, ⟨Nat.le_of_ble_eq_true rfl, Nat.le_of_ble_eq_true rfl⟩, ⟨Nat.zero_le _, Nat.zero_le _⟩⟩ dX10_spread_2 rfl rfl (Nat.le_of_ble_eq_true rfl) rfl (fun z1 σ1 h => ?_)
  rw [h.1]
  have h := h.2
  obtain ⟨o2, h⟩ := h
  refine x_if_ne (q := 8) (tgt := 10) C dX10_spread_5 rfl o2 rfl (fun c3 => ?_) (fun c3 => ?_)
  · have h := h.1 c3
    refine x_aload_n (q := 11) (i := 0) C dX10_spread_10 rfl 0 rfl rfl ?_
    refine x_iconst (q := 12) (z := 0) C dX10_spread_11 rfl rfl ?_
    refine x_iload_n (q := 13) (i := 1) C dX10_spread_12 rfl 1 rfl rfl ?_
    refine x_virI (q := 16) C (Nat.le_of_ble_eq_true rfl) ly_51 rfl ck_RX10_142 vk_X10_canSpread (m_X10_canSpread l hI h) ⟨⟨rfl, rfl⟩, ⟨Nat.le_of_ble_eq_true rfl, Nat.le_of_ble_eq_true rfl⟩, ⟨Nat.zero_le _, Nat.zero_le _⟩⟩ dX10_spread_13 rfl rfl (Nat.le_of_ble_eq_true rfl) rfl (fun z4 σ4 h => ?_)
    rw [h.1]
    have h := h.2
    obtain ⟨o5, h⟩ := h
    refine x_if_ne (q := 19) (tgt := 22) C dX10_spread_16 rfl o5 rfl (fun c6 => ?_) (fun c6 => ?_)
    · have h := h.1 c6
      refine x_aload_n (q := 23) (i := 0) C dX10_spread_22 rfl 0 rfl rfl ?_
      refine x_virV (q := 26) C (Nat.le_of_ble_eq_true rfl) ly_51 rfl ck_RX10_145 vk_X10_keepAct (m_X10_keepAct l hI h) ⟨⟨rfl, rfl⟩, ⟨Nat.le_of_ble_eq_true rfl, Nat.le_of_ble_eq_true rfl⟩, ⟨Nat.zero_le _, Nat.zero_le _⟩⟩ dX10_spread_23 rfl rfl (Nat.le_of_ble_eq_true rfl) rfl (fun σ7 h => ?_)
      refine x_aload_n (q := 27) (i := 0) C dX10_spread_26 rfl 0 rfl rfl ?_
      refine x_getR (q := 30) (c0 := 54) C (Nat.le_of_ble_eq_true rfl) ly_51 fk_RX10_16 rfl dX10_spread_27 rfl ?_
      refine x_iload_n (q := 31) (i := 1) C dX10_spread_30 rfl 1 rfl rfl ?_
      refine x_dup2 (q := 32) C dX10_spread_31 rfl rfl rfl ?_
      obtain ⟨o8, h⟩ := h
      refine x_iald (q := 33) C (Nat.le_of_ble_eq_true rfl) ly_54 dX10_spread_32 (ix o8 rfl) (Nat.le_of_ble_eq_true rfl) rfl ?_
      refine x_iconst (q := 34) (z := 1) C dX10_spread_33 rfl rfl ?_
      refine x_iadd (q := 35) C dX10_spread_34  rfl ?_
      refine x_iast (q := 36) C (Nat.le_of_ble_eq_true rfl) ly_54 dX10_spread_35 (ix o8 rfl) (Nat.le_of_ble_eq_true rfl)  rfl ?_
      refine x_aload_n (q := 37) (i := 0) C dX10_spread_36 rfl 0 rfl rfl ?_
      refine x_getR (q := 40) (c0 := 54) C (Nat.le_of_ble_eq_true rfl) ly_51 fk_RX10_16 rfl dX10_spread_37 rfl ?_
      refine x_iload_n (q := 41) (i := 1) C dX10_spread_40 rfl 1 rfl rfl ?_
      refine x_iald (q := 42) C (Nat.le_of_ble_eq_true rfl) ly_54 dX10_spread_41 (ix o8 rfl) (Nat.le_of_ble_eq_true rfl) rfl ?_
      exact x_iret C dX10_spread_42 h
    · have h := h.2 c6
      refine x_bipush (q := 21) (z := (-3)) C dX10_spread_19 rfl rfl ?_
      exact x_iret C dX10_spread_21 h
  · have h := h.2 c3
    refine x_iconst (q := 9) (z := (-1)) C dX10_spread_8 rfl rfl ?_
    exact x_iret C dX10_spread_9 h
abbrev rm_X10_fold : Room := { frames := 3, cells := 0, slots := 0, locals := 68 }
def vc_X10_fold (σ : GS) (a0 : Int) (Post : Int → GS → Prop) : Prop :=
  vc_X10_isGap σ a0 (fun (z1 : Int) =>
    (rg z1) ∧
  ((¬ z1 = 0 →
    (vc_X10_canFold σ 0 a0 (fun (z4 : Int) =>
      (rg z4) ∧
    ((¬ z4 = 0 →
      (vc_X10_keepAct σ  (fun (σ7 : GS) =>
        (0 ≤ a0 ∧ a0 < 10) ∧
      (Post ((up2 σ7 54 a0.toNat ((σ7 54 a0.toNat) - 1)) 54 a0.toNat) (up2 σ7 54 a0.toNat ((σ7 54 a0.toNat) - 1)))))) ∧
    (z4 = 0 →
      (Post (-3) σ)))))) ∧
  (z1 = 0 →
    (Post (-1) σ))))
set_option maxHeartbeats 4000000 in
set_option maxRecDepth 10000 in
theorem m_X10_fold (l : Launch) {ad : Nat → Nat} {D : va_G} {cI cZ cG : ClassId} (hI : Ij ad) {σ : GS} {a0 : Int} {Post : Int → GS → Prop} (h : vc_X10_fold σ a0 Post) : Met l yX10_fold (wX yX10_fold cX10_fold 2 (some .int)) rm_X10_fold (va_Pc [.ref (ad 51), .int (iI a0)] (Wd ad D cI cZ cG σ)) (QI ad D cI cZ cG Post) 0 0 (Aw ad) := by
  refine met_V (own := RX10) hI (by decide +kernel) rfl (Nat.le_of_ble_eq_true rfl) ?_
  intro p e s m args below meth c C
  unfold vc_X10_fold at h
  show V p l e rm_X10_fold s m args below meth c ad D cI cZ cG (Aw ad) 2 0 0 (MQ below (QI ad D cI cZ cG Post) args s 0 0 (Aw ad)) σ 0 [(0, .ref (ad 51)), (1, .int (iI a0))] []
  refine x_aload_n (q := 1) (i := 0) C dX10_fold_0 rfl 0 rfl rfl ?_
  refine x_iload_n (q := 2) (i := 1) C dX10_fold_1 rfl 1 rfl rfl ?_
  refine x_virI (q := 5) C (Nat.le_of_ble_eq_true rfl) ly_51 rfl ck_RX10_133 vk_X10_isGap (m_X10_isGap l hI h) ⟨⟨rfl, rfl⟩, ⟨Nat.le_of_ble_eq_true rfl, Nat.le_of_ble_eq_true rfl⟩, ⟨Nat.zero_le _, Nat.zero_le _⟩⟩ dX10_fold_2 rfl rfl (Nat.le_of_ble_eq_true rfl) rfl (fun z1 σ1 h => ?_)
  rw [h.1]
  have h := h.2
  obtain ⟨o2, h⟩ := h
  refine x_if_ne (q := 8) (tgt := 10) C dX10_fold_5 rfl o2 rfl (fun c3 => ?_) (fun c3 => ?_)
  · have h := h.1 c3
    refine x_aload_n (q := 11) (i := 0) C dX10_fold_10 rfl 0 rfl rfl ?_
    refine x_iconst (q := 12) (z := 0) C dX10_fold_11 rfl rfl ?_
    refine x_iload_n (q := 13) (i := 1) C dX10_fold_12 rfl 1 rfl rfl ?_
    refine x_virI (q := 16) C (Nat.le_of_ble_eq_true rfl) ly_51 rfl ck_RX10_148 vk_X10_canFold (m_X10_canFold l hI h) ⟨⟨rfl, rfl⟩, ⟨Nat.le_of_ble_eq_true rfl, Nat.le_of_ble_eq_true rfl⟩, ⟨Nat.zero_le _, Nat.zero_le _⟩⟩ dX10_fold_13 rfl rfl (Nat.le_of_ble_eq_true rfl) rfl (fun z4 σ4 h => ?_)
    rw [h.1]
    have h := h.2
    obtain ⟨o5, h⟩ := h
    refine x_if_ne (q := 19) (tgt := 22) C dX10_fold_16 rfl o5 rfl (fun c6 => ?_) (fun c6 => ?_)
    · have h := h.1 c6
      refine x_aload_n (q := 23) (i := 0) C dX10_fold_22 rfl 0 rfl rfl ?_
      refine x_virV (q := 26) C (Nat.le_of_ble_eq_true rfl) ly_51 rfl ck_RX10_145 vk_X10_keepAct (m_X10_keepAct l hI h) ⟨⟨rfl, rfl⟩, ⟨Nat.le_of_ble_eq_true rfl, Nat.le_of_ble_eq_true rfl⟩, ⟨Nat.zero_le _, Nat.zero_le _⟩⟩ dX10_fold_23 rfl rfl (Nat.le_of_ble_eq_true rfl) rfl (fun σ7 h => ?_)
      refine x_aload_n (q := 27) (i := 0) C dX10_fold_26 rfl 0 rfl rfl ?_
      refine x_getR (q := 30) (c0 := 54) C (Nat.le_of_ble_eq_true rfl) ly_51 fk_RX10_16 rfl dX10_fold_27 rfl ?_
      refine x_iload_n (q := 31) (i := 1) C dX10_fold_30 rfl 1 rfl rfl ?_
      refine x_dup2 (q := 32) C dX10_fold_31 rfl rfl rfl ?_
      obtain ⟨o8, h⟩ := h
      refine x_iald (q := 33) C (Nat.le_of_ble_eq_true rfl) ly_54 dX10_fold_32 (ix o8 rfl) (Nat.le_of_ble_eq_true rfl) rfl ?_
      refine x_iconst (q := 34) (z := 1) C dX10_fold_33 rfl rfl ?_
      refine x_isub (q := 35) C dX10_fold_34  rfl ?_
      refine x_iast (q := 36) C (Nat.le_of_ble_eq_true rfl) ly_54 dX10_fold_35 (ix o8 rfl) (Nat.le_of_ble_eq_true rfl)  rfl ?_
      refine x_aload_n (q := 37) (i := 0) C dX10_fold_36 rfl 0 rfl rfl ?_
      refine x_getR (q := 40) (c0 := 54) C (Nat.le_of_ble_eq_true rfl) ly_51 fk_RX10_16 rfl dX10_fold_37 rfl ?_
      refine x_iload_n (q := 41) (i := 1) C dX10_fold_40 rfl 1 rfl rfl ?_
      refine x_iald (q := 42) C (Nat.le_of_ble_eq_true rfl) ly_54 dX10_fold_41 (ix o8 rfl) (Nat.le_of_ble_eq_true rfl) rfl ?_
      exact x_iret C dX10_fold_42 h
    · have h := h.2 c6
      refine x_bipush (q := 21) (z := (-3)) C dX10_fold_19 rfl rfl ?_
      exact x_iret C dX10_fold_21 h
  · have h := h.2 c3
    refine x_iconst (q := 9) (z := (-1)) C dX10_fold_8 rfl rfl ?_
    exact x_iret C dX10_fold_9 h
abbrev rm_X10_flingOn : Room := { frames := 3, cells := 0, slots := 0, locals := 68 }
def vc_X10_flingOn (σ : GS) (a0 : Int) (Post : Int → GS → Prop) : Prop :=
  ∃ I1 : Nat → Int → Int → GS → Prop, (∃ n : Nat, I1 n 0 0 σ) ∧ ∀ (n1 : Nat) (v2_1 : Int) (v3_1 : Int) (σ1 : GS), I1 n1 v2_1 v3_1 σ1 →
  (vc_X10_gapMany σ1  (fun (z2 : Int) =>
        (rg v3_1) ∧
      ((rg z2) ∧
      ((z2 ≤ v3_1 →
        (Post v2_1 σ1)) ∧
      (¬ z2 ≤ v3_1 →
        (vc_X10_canSpread σ1 a0 v3_1 (fun (z6 : Int) =>
          (0 ≤ ((5 * a0) + v3_1) ∧ ((5 * a0) + v3_1) < 10) ∧
        ((rg z6) ∧
        ((z6 = 0 →
          ((z6 = 0 →
            (∃ n' : Nat, n' < n1 ∧ I1 n' (v2_1 + 0) (v3_1 + 1) (up2 σ1 54 ((5 * a0) + v3_1).toNat ((σ1 54 ((5 * a0) + v3_1).toNat) + 0)))) ∧
          (¬ z6 = 0 →
            (∃ n' : Nat, n' < n1 ∧ I1 n' (v2_1 + 1) (v3_1 + 1) (up2 σ1 54 ((5 * a0) + v3_1).toNat ((σ1 54 ((5 * a0) + v3_1).toNat) + 0)))))) ∧
        (¬ z6 = 0 →
          ((z6 = 0 →
            (∃ n' : Nat, n' < n1 ∧ I1 n' (v2_1 + 0) (v3_1 + 1) (up2 σ1 54 ((5 * a0) + v3_1).toNat ((σ1 54 ((5 * a0) + v3_1).toNat) + 1)))) ∧
          (¬ z6 = 0 →
            (∃ n' : Nat, n' < n1 ∧ I1 n' (v2_1 + 1) (v3_1 + 1) (up2 σ1 54 ((5 * a0) + v3_1).toNat ((σ1 54 ((5 * a0) + v3_1).toNat) + 1)))))))))))))))
set_option maxHeartbeats 4000000 in
set_option maxRecDepth 10000 in
theorem m_X10_flingOn (l : Launch) {ad : Nat → Nat} {D : va_G} {cI cZ cG : ClassId} (hI : Ij ad) {σ : GS} {a0 : Int} {Post : Int → GS → Prop} (h : vc_X10_flingOn σ a0 Post) : Met l yX10_flingOn (wX yX10_flingOn cX10_flingOn 5 (some .int)) rm_X10_flingOn (va_Pc [.ref (ad 51), .int (iI a0)] (Wd ad D cI cZ cG σ)) (QI ad D cI cZ cG Post) 0 0 (Aw ad) := by
  refine met_V (own := RX10) hI (by decide +kernel) rfl (Nat.le_of_ble_eq_true rfl) ?_
  intro p e s m args below meth c C
  unfold vc_X10_flingOn at h
  show V p l e rm_X10_flingOn s m args below meth c ad D cI cZ cG (Aw ad) 5 0 0 (MQ below (QI ad D cI cZ cG Post) args s 0 0 (Aw ad)) σ 0 [(0, .ref (ad 51)), (1, .int (iI a0))] []
  refine x_iconst (q := 1) (z := 0) C dX10_flingOn_0 rfl rfl ?_
  refine x_istore_n (q := 2) (i := 2) (lv' := [(0, .ref (ad 51)), (1, .int (iI a0)), (2, .int (iI 0))]) C dX10_flingOn_1 rfl (Nat.le_of_ble_eq_true rfl) [1, 2, 0] rfl rfl ?_
  refine x_iconst (q := 3) (z := 0) C dX10_flingOn_2 rfl rfl ?_
  refine x_istore_n (q := 4) (i := 3) (lv' := [(0, .ref (ad 51)), (1, .int (iI a0)), (2, .int (iI 0)), (3, .int (iI 0))]) C dX10_flingOn_3 rfl (Nat.le_of_ble_eq_true rfl) [1, 2, 3, 0] rfl rfl ?_
  obtain ⟨I1, ⟨n01, h01⟩, hs1⟩ := h
  have L1 : ∀ (n1 : Nat) (v2_1 : Int) (v3_1 : Int) (σ1 : GS), I1 n1 v2_1 v3_1 σ1 → V p l e rm_X10_flingOn s m args below meth c ad D cI cZ cG (Aw ad) 5 0 0 (MQ below (QI ad D cI cZ cG Post) args s 0 0 (Aw ad)) σ1 4 [(0, .ref (ad 51)), (1, .int (iI a0)), (2, .int (iI v2_1)), (3, .int (iI v3_1))] [] := by
    intro n1
    induction n1 using Nat.strongRecOn with
    | ind n1 ih1 =>
      intro v2_1 v3_1 σ1 h
      have h := hs1 n1 v2_1 v3_1 σ1 h
      refine x_iload_n (q := 5) (i := 3) C dX10_flingOn_4 rfl 3 rfl rfl ?_
      refine x_aload_n (q := 6) (i := 0) C dX10_flingOn_5 rfl 0 rfl rfl ?_
      refine x_virI (q := 9) C (Nat.le_of_ble_eq_true rfl) ly_51 rfl ck_RX10_81 vk_X10_gapMany (m_X10_gapMany l hI h) ⟨⟨rfl, rfl⟩, ⟨Nat.le_of_ble_eq_true rfl, Nat.le_of_ble_eq_true rfl⟩, ⟨Nat.zero_le _, Nat.zero_le _⟩⟩ dX10_flingOn_6 rfl rfl (Nat.le_of_ble_eq_true rfl) rfl (fun z2 σ2 h => ?_)
      rw [h.1]
      have h := h.2
      obtain ⟨o3, h⟩ := h
      obtain ⟨o4, h⟩ := h
      refine x_icmp_ge (q := 12) (tgt := 62) C dX10_flingOn_9 rfl ⟨o3, o4⟩ rfl (fun c5 => ?_) (fun c5 => ?_)
      · have h := h.1 c5
        refine x_iload_n (q := 63) (i := 2) C dX10_flingOn_62 rfl 2 rfl rfl ?_
        exact x_iret C dX10_flingOn_63 h
      · have h := h.2 c5
        refine x_aload_n (q := 13) (i := 0) C dX10_flingOn_12 rfl 0 rfl rfl ?_
        refine x_iload_n (q := 14) (i := 1) C dX10_flingOn_13 rfl 1 rfl rfl ?_
        refine x_iload_n (q := 15) (i := 3) C dX10_flingOn_14 rfl 3 rfl rfl ?_
        refine x_virI (q := 18) C (Nat.le_of_ble_eq_true rfl) ly_51 rfl ck_RX10_142 vk_X10_canSpread (m_X10_canSpread l hI h) ⟨⟨rfl, rfl⟩, ⟨Nat.le_of_ble_eq_true rfl, Nat.le_of_ble_eq_true rfl⟩, ⟨Nat.zero_le _, Nat.zero_le _⟩⟩ dX10_flingOn_15 rfl rfl (Nat.le_of_ble_eq_true rfl) rfl (fun z6 σ6 h => ?_)
        rw [h.1]
        have h := h.2
        refine x_istore (q := 20) (i := 4) (lv' := [(0, .ref (ad 51)), (1, .int (iI a0)), (2, .int (iI v2_1)), (3, .int (iI v3_1)), (4, .int (iI z6))]) C dX10_flingOn_18 (Nat.le_of_ble_eq_true rfl) [1, 2, 3, 4, 0] rfl rfl ?_
        refine x_aload_n (q := 21) (i := 0) C dX10_flingOn_20 rfl 0 rfl rfl ?_
        refine x_getR (q := 24) (c0 := 54) C (Nat.le_of_ble_eq_true rfl) ly_51 fk_RX10_16 rfl dX10_flingOn_21 rfl ?_
        refine x_iconst (q := 25) (z := 5) C dX10_flingOn_24 rfl rfl ?_
        refine x_iload_n (q := 26) (i := 1) C dX10_flingOn_25 rfl 1 rfl rfl ?_
        refine x_imul (q := 27) C dX10_flingOn_26  rfl ?_
        refine x_iload_n (q := 28) (i := 3) C dX10_flingOn_27 rfl 3 rfl rfl ?_
        refine x_iadd (q := 29) C dX10_flingOn_28  rfl ?_
        refine x_dup2 (q := 30) C dX10_flingOn_29 rfl rfl rfl ?_
        obtain ⟨o7, h⟩ := h
        refine x_iald (q := 31) C (Nat.le_of_ble_eq_true rfl) ly_54 dX10_flingOn_30 (ix o7 rfl) (Nat.le_of_ble_eq_true rfl) rfl ?_
        refine x_iload (q := 33) C dX10_flingOn_31 4 rfl rfl ?_
        obtain ⟨o8, h⟩ := h
        refine x_if_eq (q := 36) (tgt := 40) C dX10_flingOn_33 rfl o8 rfl (fun c9 => ?_) (fun c9 => ?_)
        · have h := h.1 c9
          refine x_iconst (q := 41) (z := 0) C dX10_flingOn_40 rfl rfl ?_
          refine x_iadd (q := 42) C dX10_flingOn_41  rfl ?_
          refine x_iast (q := 43) C (Nat.le_of_ble_eq_true rfl) ly_54 dX10_flingOn_42 (ix o7 rfl) (Nat.le_of_ble_eq_true rfl)  rfl ?_
          refine x_iload_n (q := 44) (i := 2) C dX10_flingOn_43 rfl 2 rfl rfl ?_
          refine x_iload (q := 46) C dX10_flingOn_44 4 rfl rfl ?_
          refine x_if_eq (q := 49) (tgt := 53) C dX10_flingOn_46 rfl o8 rfl (fun c10 => ?_) (fun c10 => ?_)
          · have h := h.1 c10
            refine x_iconst (q := 54) (z := 0) C dX10_flingOn_53 rfl rfl ?_
            refine x_iadd (q := 55) C dX10_flingOn_54  rfl ?_
            refine x_istore_n (q := 56) (i := 2) (lv' := [(0, .ref (ad 51)), (1, .int (iI a0)), (2, .int (iI (v2_1 + 0))), (3, .int (iI v3_1)), (4, .int (iI z6))]) C dX10_flingOn_55 rfl (Nat.le_of_ble_eq_true rfl) [1, 2, 0, 3, 4] rfl rfl ?_
            refine x_iinc (q := 59) (z' := v3_1 + 1) (lv' := [(0, .ref (ad 51)), (1, .int (iI a0)), (2, .int (iI (v2_1 + 0))), (3, .int (iI (v3_1 + 1))), (4, .int (iI z6))]) C dX10_flingOn_56 3 rfl rfl (Nat.le_of_ble_eq_true rfl) [1, 2, 3, 0, 4] rfl rfl ?_
            refine x_goto (tgt := 4) C dX10_flingOn_59 rfl ?_
            obtain ⟨n11, hl12, h⟩ := h
            refine x_sub [0, 1, 2, 3] rfl ?_
            exact ih1 n11 hl12 _ _ _ h
          · have h := h.2 c10
            refine x_iconst (q := 50) (z := 1) C dX10_flingOn_49 rfl rfl ?_
            refine x_goto (tgt := 54) C dX10_flingOn_50 rfl ?_
            refine x_iadd (q := 55) C dX10_flingOn_54  rfl ?_
            refine x_istore_n (q := 56) (i := 2) (lv' := [(0, .ref (ad 51)), (1, .int (iI a0)), (2, .int (iI (v2_1 + 1))), (3, .int (iI v3_1)), (4, .int (iI z6))]) C dX10_flingOn_55 rfl (Nat.le_of_ble_eq_true rfl) [1, 2, 0, 3, 4] rfl rfl ?_
            refine x_iinc (q := 59) (z' := v3_1 + 1) (lv' := [(0, .ref (ad 51)), (1, .int (iI a0)), (2, .int (iI (v2_1 + 1))), (3, .int (iI (v3_1 + 1))), (4, .int (iI z6))]) C dX10_flingOn_56 3 rfl rfl (Nat.le_of_ble_eq_true rfl) [1, 2, 3, 0, 4] rfl rfl ?_
            refine x_goto (tgt := 4) C dX10_flingOn_59 rfl ?_
            obtain ⟨n13, hl14, h⟩ := h
            refine x_sub [0, 1, 2, 3] rfl ?_
            exact ih1 n13 hl14 _ _ _ h
        · have h := h.2 c9
          refine x_iconst (q := 37) (z := 1) C dX10_flingOn_36 rfl rfl ?_
          refine x_goto (tgt := 41) C dX10_flingOn_37 rfl ?_
          refine x_iadd (q := 42) C dX10_flingOn_41  rfl ?_
          refine x_iast (q := 43) C (Nat.le_of_ble_eq_true rfl) ly_54 dX10_flingOn_42 (ix o7 rfl) (Nat.le_of_ble_eq_true rfl)  rfl ?_
          refine x_iload_n (q := 44) (i := 2) C dX10_flingOn_43 rfl 2 rfl rfl ?_
          refine x_iload (q := 46) C dX10_flingOn_44 4 rfl rfl ?_
          refine x_if_eq (q := 49) (tgt := 53) C dX10_flingOn_46 rfl o8 rfl (fun c15 => ?_) (fun c15 => ?_)
          · have h := h.1 c15
            refine x_iconst (q := 54) (z := 0) C dX10_flingOn_53 rfl rfl ?_
            refine x_iadd (q := 55) C dX10_flingOn_54  rfl ?_
            refine x_istore_n (q := 56) (i := 2) (lv' := [(0, .ref (ad 51)), (1, .int (iI a0)), (2, .int (iI (v2_1 + 0))), (3, .int (iI v3_1)), (4, .int (iI z6))]) C dX10_flingOn_55 rfl (Nat.le_of_ble_eq_true rfl) [1, 2, 0, 3, 4] rfl rfl ?_
            refine x_iinc (q := 59) (z' := v3_1 + 1) (lv' := [(0, .ref (ad 51)), (1, .int (iI a0)), (2, .int (iI (v2_1 + 0))), (3, .int (iI (v3_1 + 1))), (4, .int (iI z6))]) C dX10_flingOn_56 3 rfl rfl (Nat.le_of_ble_eq_true rfl) [1, 2, 3, 0, 4] rfl rfl ?_
            refine x_goto (tgt := 4) C dX10_flingOn_59 rfl ?_
            obtain ⟨n16, hl17, h⟩ := h
            refine x_sub [0, 1, 2, 3] rfl ?_
            exact ih1 n16 hl17 _ _ _ h
          · have h := h.2 c15
            refine x_iconst (q := 50) (z := 1) C dX10_flingOn_49 rfl rfl ?_
            refine x_goto (tgt := 54) C dX10_flingOn_50 rfl ?_
            refine x_iadd (q := 55) C dX10_flingOn_54  rfl ?_
            refine x_istore_n (q := 56) (i := 2) (lv' := [(0, .ref (ad 51)), (1, .int (iI a0)), (2, .int (iI (v2_1 + 1))), (3, .int (iI v3_1)), (4, .int (iI z6))]) C dX10_flingOn_55 rfl (Nat.le_of_ble_eq_true rfl) [1, 2, 0, 3, 4] rfl rfl ?_
            refine x_iinc (q := 59) (z' := v3_1 + 1) (lv' := [(0, .ref (ad 51)), (1, .int (iI a0)), (2, .int (iI (v2_1 + 1))), (3, .int (iI (v3_1 + 1))), (4, .int (iI z6))]) C dX10_flingOn_56 3 rfl rfl (Nat.le_of_ble_eq_true rfl) [1, 2, 3, 0, 4] rfl rfl ?_
            refine x_goto (tgt := 4) C dX10_flingOn_59 rfl ?_
            obtain ⟨n18, hl19, h⟩ := h
            refine x_sub [0, 1, 2, 3] rfl ?_
            exact ih1 n18 hl19 _ _ _ h
  exact L1 n01 0 0 σ h01
abbrev rm_X10_gapsOf : Room := { frames := 1, cells := 0, slots := 0, locals := 20 }
def vc_X10_gapsOf (σ : GS) (a0 : Int) (Post : Int → Prop) : Prop :=
  ∃ I1 : Nat → Int → Int → Prop, (∃ n : Nat, I1 n 0 0) ∧ ∀ (n1 : Nat) (v2_1 : Int) (v3_1 : Int), I1 n1 v2_1 v3_1 →
  (vc_X10_gapMany σ  (fun (z2 : Int) =>
        (rg v3_1) ∧
      ((rg z2) ∧
      ((z2 ≤ v3_1 →
        (Post v2_1)) ∧
      (¬ z2 ≤ v3_1 →
        ((0 ≤ ((5 * a0) + v3_1) ∧ ((5 * a0) + v3_1) < 10) ∧
        (∃ n' : Nat, n' < n1 ∧ I1 n' (v2_1 + (σ 54 ((5 * a0) + v3_1).toNat)) (v3_1 + 1))))))))
set_option maxHeartbeats 4000000 in
set_option maxRecDepth 10000 in
theorem m_X10_gapsOf (l : Launch) {ad : Nat → Nat} {D : va_G} {cI cZ cG : ClassId} (hI : Ij ad) {σ : GS} {a0 : Int} {Post : Int → Prop} (h : vc_X10_gapsOf σ a0 Post) : Met l yX10_gapsOf (wX yX10_gapsOf cX10_gapsOf 4 (some .int)) rm_X10_gapsOf (va_Pc [.ref (ad 51), .int (iI a0)] (Wd ad D cI cZ cG σ)) (QI ad D cI cZ cG (fun z u => u = σ ∧ Post z)) 0 0 (Aw ad) := by
  refine met_V (own := RX10) hI (by decide +kernel) rfl (Nat.le_of_ble_eq_true rfl) ?_
  intro p e s m args below meth c C
  unfold vc_X10_gapsOf at h
  show V p l e rm_X10_gapsOf s m args below meth c ad D cI cZ cG (Aw ad) 4 0 0 (MQ below (QI ad D cI cZ cG (fun z u => u = σ ∧ Post z)) args s 0 0 (Aw ad)) σ 0 [(0, .ref (ad 51)), (1, .int (iI a0))] []
  refine x_iconst (q := 1) (z := 0) C dX10_gapsOf_0 rfl rfl ?_
  refine x_istore_n (q := 2) (i := 2) (lv' := [(0, .ref (ad 51)), (1, .int (iI a0)), (2, .int (iI 0))]) C dX10_gapsOf_1 rfl (Nat.le_of_ble_eq_true rfl) [1, 2, 0] rfl rfl ?_
  refine x_iconst (q := 3) (z := 0) C dX10_gapsOf_2 rfl rfl ?_
  refine x_istore_n (q := 4) (i := 3) (lv' := [(0, .ref (ad 51)), (1, .int (iI a0)), (2, .int (iI 0)), (3, .int (iI 0))]) C dX10_gapsOf_3 rfl (Nat.le_of_ble_eq_true rfl) [1, 2, 3, 0] rfl rfl ?_
  obtain ⟨I1, ⟨n01, h01⟩, hs1⟩ := h
  have L1 : ∀ (n1 : Nat) (v2_1 : Int) (v3_1 : Int), I1 n1 v2_1 v3_1 → V p l e rm_X10_gapsOf s m args below meth c ad D cI cZ cG (Aw ad) 4 0 0 (MQ below (QI ad D cI cZ cG (fun z u => u = σ ∧ Post z)) args s 0 0 (Aw ad)) σ 4 [(0, .ref (ad 51)), (1, .int (iI a0)), (2, .int (iI v2_1)), (3, .int (iI v3_1))] [] := by
    intro n1
    induction n1 using Nat.strongRecOn with
    | ind n1 ih1 =>
      intro v2_1 v3_1 h
      have h := hs1 n1 v2_1 v3_1 h
      refine x_iload_n (q := 5) (i := 3) C dX10_gapsOf_4 rfl 3 rfl rfl ?_
      refine x_aload_n (q := 6) (i := 0) C dX10_gapsOf_5 rfl 0 rfl rfl ?_
      refine x_virI (q := 9) C (Nat.le_of_ble_eq_true rfl) ly_51 rfl ck_RX10_81 vk_X10_gapMany (m_X10_gapMany l hI h) ⟨⟨rfl, rfl⟩, ⟨Nat.le_of_ble_eq_true rfl, Nat.le_of_ble_eq_true rfl⟩, ⟨Nat.zero_le _, Nat.zero_le _⟩⟩ dX10_gapsOf_6 rfl rfl (Nat.le_of_ble_eq_true rfl) rfl (fun z2 σ2 h => ?_)
      rw [h.1]
      have h := h.2
      obtain ⟨o3, h⟩ := h
      obtain ⟨o4, h⟩ := h
      refine x_icmp_ge (q := 12) (tgt := 31) C dX10_gapsOf_9 rfl ⟨o3, o4⟩ rfl (fun c5 => ?_) (fun c5 => ?_)
      · have h := h.1 c5
        refine x_iload_n (q := 32) (i := 2) C dX10_gapsOf_31 rfl 2 rfl rfl ?_
        exact x_iret C dX10_gapsOf_32 ⟨rfl, h⟩
      · have h := h.2 c5
        refine x_iload_n (q := 13) (i := 2) C dX10_gapsOf_12 rfl 2 rfl rfl ?_
        refine x_aload_n (q := 14) (i := 0) C dX10_gapsOf_13 rfl 0 rfl rfl ?_
        refine x_getR (q := 17) (c0 := 54) C (Nat.le_of_ble_eq_true rfl) ly_51 fk_RX10_16 rfl dX10_gapsOf_14 rfl ?_
        refine x_iconst (q := 18) (z := 5) C dX10_gapsOf_17 rfl rfl ?_
        refine x_iload_n (q := 19) (i := 1) C dX10_gapsOf_18 rfl 1 rfl rfl ?_
        refine x_imul (q := 20) C dX10_gapsOf_19  rfl ?_
        refine x_iload_n (q := 21) (i := 3) C dX10_gapsOf_20 rfl 3 rfl rfl ?_
        refine x_iadd (q := 22) C dX10_gapsOf_21  rfl ?_
        obtain ⟨o6, h⟩ := h
        refine x_iald (q := 23) C (Nat.le_of_ble_eq_true rfl) ly_54 dX10_gapsOf_22 (ix o6 rfl) (Nat.le_of_ble_eq_true rfl) rfl ?_
        refine x_iadd (q := 24) C dX10_gapsOf_23  rfl ?_
        refine x_istore_n (q := 25) (i := 2) (lv' := [(0, .ref (ad 51)), (1, .int (iI a0)), (2, .int (iI (v2_1 + (σ 54 ((5 * a0) + v3_1).toNat)))), (3, .int (iI v3_1))]) C dX10_gapsOf_24 rfl (Nat.le_of_ble_eq_true rfl) [1, 2, 0, 3] rfl rfl ?_
        refine x_iinc (q := 28) (z' := v3_1 + 1) (lv' := [(0, .ref (ad 51)), (1, .int (iI a0)), (2, .int (iI (v2_1 + (σ 54 ((5 * a0) + v3_1).toNat)))), (3, .int (iI (v3_1 + 1)))]) C dX10_gapsOf_25 3 rfl rfl (Nat.le_of_ble_eq_true rfl) [1, 2, 3, 0] rfl rfl ?_
        refine x_goto (tgt := 4) C dX10_gapsOf_28 rfl ?_
        obtain ⟨n7, hl8, h⟩ := h
        refine x_sub [0, 1, 2, 3] rfl ?_
        exact ih1 n7 hl8 _ _ h
  exact L1 n01 0 0 h01
abbrev rm_X10_snapOn : Room := { frames := 0, cells := 0, slots := 0, locals := 0 }
def vc_X10_snapOn (σ : GS) (a0 : Int) (Post : GS → Prop) : Prop :=
  ∃ I1 : Nat → Int → GS → Prop, (∃ n : Nat, I1 n 0 σ) ∧ ∀ (n1 : Nat) (v2_1 : Int) (σ1 : GS), I1 n1 v2_1 σ1 →
  ((rg v2_1) ∧
      (((5 : Int) ≤ v2_1 →
        (Post σ1)) ∧
      (¬ (5 : Int) ≤ v2_1 →
        ((0 ≤ ((5 * a0) + v2_1) ∧ ((5 * a0) + v2_1) < 10) ∧
        (∃ n' : Nat, n' < n1 ∧ I1 n' (v2_1 + 1) (up2 σ1 54 ((5 * a0) + v2_1).toNat 0))))))
set_option maxHeartbeats 4000000 in
set_option maxRecDepth 10000 in
theorem m_X10_snapOn (l : Launch) {ad : Nat → Nat} {D : va_G} {cI cZ cG : ClassId} (hI : Ij ad) {σ : GS} {a0 : Int} {Post : GS → Prop} (h : vc_X10_snapOn σ a0 Post) : Met l yX10_snapOn (wX yX10_snapOn cX10_snapOn 3 none) rm_X10_snapOn (va_Pc [.ref (ad 51), .int (iI a0)] (Wd ad D cI cZ cG σ)) (QV ad D cI cZ cG Post) 0 0 (Aw ad) := by
  refine met_V (own := RX10) hI (by decide +kernel) rfl (Nat.le_of_ble_eq_true rfl) ?_
  intro p e s m args below meth c C
  unfold vc_X10_snapOn at h
  show V p l e rm_X10_snapOn s m args below meth c ad D cI cZ cG (Aw ad) 3 0 0 (MQ below (QV ad D cI cZ cG Post) args s 0 0 (Aw ad)) σ 0 [(0, .ref (ad 51)), (1, .int (iI a0))] []
  refine x_iconst (q := 1) (z := 0) C dX10_snapOn_0 rfl rfl ?_
  refine x_istore_n (q := 2) (i := 2) (lv' := [(0, .ref (ad 51)), (1, .int (iI a0)), (2, .int (iI 0))]) C dX10_snapOn_1 rfl (Nat.le_of_ble_eq_true rfl) [1, 2, 0] rfl rfl ?_
  obtain ⟨I1, ⟨n01, h01⟩, hs1⟩ := h
  have L1 : ∀ (n1 : Nat) (v2_1 : Int) (σ1 : GS), I1 n1 v2_1 σ1 → V p l e rm_X10_snapOn s m args below meth c ad D cI cZ cG (Aw ad) 3 0 0 (MQ below (QV ad D cI cZ cG Post) args s 0 0 (Aw ad)) σ1 2 [(0, .ref (ad 51)), (1, .int (iI a0)), (2, .int (iI v2_1))] [] := by
    intro n1
    induction n1 using Nat.strongRecOn with
    | ind n1 ih1 =>
      intro v2_1 σ1 h
      have h := hs1 n1 v2_1 σ1 h
      refine x_iload_n (q := 3) (i := 2) C dX10_snapOn_2 rfl 2 rfl rfl ?_
      refine x_iconst (q := 4) (z := 5) C dX10_snapOn_3 rfl rfl ?_
      obtain ⟨o2, h⟩ := h
      refine x_icmp_ge (q := 7) (tgt := 24) C dX10_snapOn_4 rfl ⟨o2, by decide⟩ rfl (fun c3 => ?_) (fun c3 => ?_)
      · have h := h.1 c3
        exact x_vret C dX10_snapOn_24 h
      · have h := h.2 c3
        refine x_aload_n (q := 8) (i := 0) C dX10_snapOn_7 rfl 0 rfl rfl ?_
        refine x_getR (q := 11) (c0 := 54) C (Nat.le_of_ble_eq_true rfl) ly_51 fk_RX10_16 rfl dX10_snapOn_8 rfl ?_
        refine x_iconst (q := 12) (z := 5) C dX10_snapOn_11 rfl rfl ?_
        refine x_iload_n (q := 13) (i := 1) C dX10_snapOn_12 rfl 1 rfl rfl ?_
        refine x_imul (q := 14) C dX10_snapOn_13  rfl ?_
        refine x_iload_n (q := 15) (i := 2) C dX10_snapOn_14 rfl 2 rfl rfl ?_
        refine x_iadd (q := 16) C dX10_snapOn_15  rfl ?_
        refine x_iconst (q := 17) (z := 0) C dX10_snapOn_16 rfl rfl ?_
        obtain ⟨o4, h⟩ := h
        refine x_iast (q := 18) C (Nat.le_of_ble_eq_true rfl) ly_54 dX10_snapOn_17 (ix o4 rfl) (Nat.le_of_ble_eq_true rfl)  rfl ?_
        refine x_iinc (q := 21) (z' := v2_1 + 1) (lv' := [(0, .ref (ad 51)), (1, .int (iI a0)), (2, .int (iI (v2_1 + 1)))]) C dX10_snapOn_18 2 rfl rfl (Nat.le_of_ble_eq_true rfl) [1, 2, 0] rfl rfl ?_
        refine x_goto (tgt := 2) C dX10_snapOn_21 rfl ?_
        obtain ⟨n5, hl6, h⟩ := h
        refine x_sub [0, 1, 2] rfl ?_
        exact ih1 n5 hl6 _ _ h
  exact L1 n01 0 σ h01
abbrev rm_X10_fling : Room := { frames := 4, cells := 0, slots := 0, locals := 92 }
def vc_X10_fling (σ : GS)  (Post : Int → GS → Prop) : Prop :=
  vc_X10_keepAct σ  (fun (σ1 : GS) =>
    vc_X10_flingOn σ1 0 (fun (z2 : Int) (σ2 : GS) =>
    Post z2 σ2))
set_option maxHeartbeats 4000000 in
set_option maxRecDepth 10000 in
theorem m_X10_fling (l : Launch) {ad : Nat → Nat} {D : va_G} {cI cZ cG : ClassId} (hI : Ij ad) {σ : GS}  {Post : Int → GS → Prop} (h : vc_X10_fling σ  Post) : Met l yX10_fling (wX yX10_fling cX10_fling 1 (some .int)) rm_X10_fling (va_Pc [.ref (ad 51)] (Wd ad D cI cZ cG σ)) (QI ad D cI cZ cG Post) 0 0 (Aw ad) := by
  refine met_V (own := RX10) hI (by decide +kernel) rfl (Nat.le_of_ble_eq_true rfl) ?_
  intro p e s m args below meth c C
  unfold vc_X10_fling at h
  show V p l e rm_X10_fling s m args below meth c ad D cI cZ cG (Aw ad) 1 0 0 (MQ below (QI ad D cI cZ cG Post) args s 0 0 (Aw ad)) σ 0 [(0, .ref (ad 51))] []
  refine x_aload_n (q := 1) (i := 0) C dX10_fling_0 rfl 0 rfl rfl ?_
  refine x_virV (q := 4) C (Nat.le_of_ble_eq_true rfl) ly_51 rfl ck_RX10_145 vk_X10_keepAct (m_X10_keepAct l hI h) ⟨⟨rfl, rfl⟩, ⟨Nat.le_of_ble_eq_true rfl, Nat.le_of_ble_eq_true rfl⟩, ⟨Nat.zero_le _, Nat.zero_le _⟩⟩ dX10_fling_1 rfl rfl (Nat.le_of_ble_eq_true rfl) rfl (fun σ1 h => ?_)
  refine x_aload_n (q := 5) (i := 0) C dX10_fling_4 rfl 0 rfl rfl ?_
  refine x_iconst (q := 6) (z := 0) C dX10_fling_5 rfl rfl ?_
  refine x_virI (q := 9) C (Nat.le_of_ble_eq_true rfl) ly_51 rfl ck_RX10_151 vk_X10_flingOn (m_X10_flingOn l hI h) ⟨⟨rfl, rfl⟩, ⟨Nat.le_of_ble_eq_true rfl, Nat.le_of_ble_eq_true rfl⟩, ⟨Nat.zero_le _, Nat.zero_le _⟩⟩ dX10_fling_6 rfl rfl (Nat.le_of_ble_eq_true rfl) rfl (fun z2 σ2 h => ?_)
  exact x_iret C dX10_fling_9 h
abbrev rm_X10_snap : Room := { frames := 2, cells := 0, slots := 0, locals := 43 }
def vc_X10_snap (σ : GS)  (Post : Int → GS → Prop) : Prop :=
  vc_X10_keepAct σ  (fun (σ1 : GS) =>
    vc_X10_gapsOf σ1 0 (fun (z2 : Int) =>
    vc_X10_snapOn σ1 0 (fun (σ3 : GS) =>
    Post z2 σ3)))
set_option maxHeartbeats 4000000 in
set_option maxRecDepth 10000 in
theorem m_X10_snap (l : Launch) {ad : Nat → Nat} {D : va_G} {cI cZ cG : ClassId} (hI : Ij ad) {σ : GS}  {Post : Int → GS → Prop} (h : vc_X10_snap σ  Post) : Met l yX10_snap (wX yX10_snap cX10_snap 2 (some .int)) rm_X10_snap (va_Pc [.ref (ad 51)] (Wd ad D cI cZ cG σ)) (QI ad D cI cZ cG Post) 0 0 (Aw ad) := by
  refine met_V (own := RX10) hI (by decide +kernel) rfl (Nat.le_of_ble_eq_true rfl) ?_
  intro p e s m args below meth c C
  unfold vc_X10_snap at h
  show V p l e rm_X10_snap s m args below meth c ad D cI cZ cG (Aw ad) 2 0 0 (MQ below (QI ad D cI cZ cG Post) args s 0 0 (Aw ad)) σ 0 [(0, .ref (ad 51))] []
  refine x_aload_n (q := 1) (i := 0) C dX10_snap_0 rfl 0 rfl rfl ?_
  refine x_virV (q := 4) C (Nat.le_of_ble_eq_true rfl) ly_51 rfl ck_RX10_145 vk_X10_keepAct (m_X10_keepAct l hI h) ⟨⟨rfl, rfl⟩, ⟨Nat.le_of_ble_eq_true rfl, Nat.le_of_ble_eq_true rfl⟩, ⟨Nat.zero_le _, Nat.zero_le _⟩⟩ dX10_snap_1 rfl rfl (Nat.le_of_ble_eq_true rfl) rfl (fun σ1 h => ?_)
  refine x_aload_n (q := 5) (i := 0) C dX10_snap_4 rfl 0 rfl rfl ?_
  refine x_iconst (q := 6) (z := 0) C dX10_snap_5 rfl rfl ?_
  refine x_virI (q := 9) C (Nat.le_of_ble_eq_true rfl) ly_51 rfl ck_RX10_154 vk_X10_gapsOf (m_X10_gapsOf l hI h) ⟨⟨rfl, rfl⟩, ⟨Nat.le_of_ble_eq_true rfl, Nat.le_of_ble_eq_true rfl⟩, ⟨Nat.zero_le _, Nat.zero_le _⟩⟩ dX10_snap_6 rfl rfl (Nat.le_of_ble_eq_true rfl) rfl (fun z2 σ2 h => ?_)
  rw [h.1]
  have h := h.2
  refine x_istore_n (q := 10) (i := 1) (lv' := [(0, .ref (ad 51)), (1, .int (iI z2))]) C dX10_snap_9 rfl (Nat.le_of_ble_eq_true rfl) [1, 0] rfl rfl ?_
  refine x_aload_n (q := 11) (i := 0) C dX10_snap_10 rfl 0 rfl rfl ?_
  refine x_iconst (q := 12) (z := 0) C dX10_snap_11 rfl rfl ?_
  refine x_virV (q := 15) C (Nat.le_of_ble_eq_true rfl) ly_51 rfl ck_RX10_157 vk_X10_snapOn (m_X10_snapOn l hI h) ⟨⟨rfl, rfl⟩, ⟨Nat.le_of_ble_eq_true rfl, Nat.le_of_ble_eq_true rfl⟩, ⟨Nat.zero_le _, Nat.zero_le _⟩⟩ dX10_snap_12 rfl rfl (Nat.le_of_ble_eq_true rfl) rfl (fun σ3 h => ?_)
  refine x_iload_n (q := 16) (i := 1) C dX10_snap_15 rfl 1 rfl rfl ?_
  exact x_iret C dX10_snap_16 h
abbrev rm_X10_undo : Room := { frames := 0, cells := 0, slots := 0, locals := 0 }
def vc_X10_undo (σ : GS)  (Post : Int → GS → Prop) : Prop :=
  (rg (σ 51 11)) ∧
  ((¬ (σ 51 11) = 0 →
    ((0 ≤ (((up2 σ 51 11 ((σ 51 11) - 1)) 51 12) + 13) ∧ (((up2 σ 51 11 ((σ 51 11) - 1)) 51 12) + 13) ≤ 2147483647) ∧
    (∃ I4 : Nat → Int → GS → Prop, (∃ n : Nat, I4 n 0 (up2 (up2 σ 51 11 ((σ 51 11) - 1)) 51 12 ((((up2 σ 51 11 ((σ 51 11) - 1)) 51 12) + 13) % 14))) ∧ ∀ (n4 : Nat) (v1_4 : Int) (σ4 : GS), I4 n4 v1_4 σ4 →
    ((rg v1_4) ∧
        (((5 : Int) ≤ v1_4 →
          (Post (σ4 51 11) σ4)) ∧
        (¬ (5 : Int) ≤ v1_4 →
          ((0 ≤ ((5 * (σ4 51 12)) + v1_4) ∧ ((5 * (σ4 51 12)) + v1_4) < 70) ∧
          ((0 ≤ v1_4 ∧ v1_4 < 10) ∧
          (∃ n' : Nat, n' < n4 ∧ I4 n' (v1_4 + 1) (up2 σ4 54 v1_4.toNat (σ4 59 ((5 * (σ4 51 12)) + v1_4).toNat))))))))))) ∧
  ((σ 51 11) = 0 →
    (Post (-3) σ)))
set_option maxHeartbeats 4000000 in
set_option maxRecDepth 10000 in
theorem m_X10_undo (l : Launch) {ad : Nat → Nat} {D : va_G} {cI cZ cG : ClassId} (hI : Ij ad) {σ : GS}  {Post : Int → GS → Prop} (h : vc_X10_undo σ  Post) : Met l yX10_undo (wX yX10_undo cX10_undo 2 (some .int)) rm_X10_undo (va_Pc [.ref (ad 51)] (Wd ad D cI cZ cG σ)) (QI ad D cI cZ cG Post) 0 0 (Aw ad) := by
  refine met_V (own := RX10) hI (by decide +kernel) rfl (Nat.le_of_ble_eq_true rfl) ?_
  intro p e s m args below meth c C
  unfold vc_X10_undo at h
  show V p l e rm_X10_undo s m args below meth c ad D cI cZ cG (Aw ad) 2 0 0 (MQ below (QI ad D cI cZ cG Post) args s 0 0 (Aw ad)) σ 0 [(0, .ref (ad 51))] []
  refine x_aload_n (q := 1) (i := 0) C dX10_undo_0 rfl 0 rfl rfl ?_
  refine x_getI (q := 4) C (Nat.le_of_ble_eq_true rfl) ly_51 fk_RX10_78 rfl dX10_undo_1 rfl ?_
  obtain ⟨o1, h⟩ := h
  refine x_if_ne (q := 7) (tgt := 10) C dX10_undo_4 rfl o1 rfl (fun c2 => ?_) (fun c2 => ?_)
  · have h := h.1 c2
    refine x_aload_n (q := 11) (i := 0) C dX10_undo_10 rfl 0 rfl rfl ?_
    refine x_dup (q := 12) C dX10_undo_11 rfl rfl ?_
    refine x_getI (q := 15) C (Nat.le_of_ble_eq_true rfl) ly_51 fk_RX10_78 rfl dX10_undo_12 rfl ?_
    refine x_iconst (q := 16) (z := 1) C dX10_undo_15 rfl rfl ?_
    refine x_isub (q := 17) C dX10_undo_16  rfl ?_
    refine x_putI (q := 20) C (Nat.le_of_ble_eq_true rfl) ly_51 fk_RX10_78 rfl tyX10 tyX10_ok nmX10 rfl (tyX10_ok 11 (Nat.le_of_ble_eq_true rfl)) dX10_undo_17 rfl ?_
    refine x_aload_n (q := 21) (i := 0) C dX10_undo_20 rfl 0 rfl rfl ?_
    refine x_aload_n (q := 22) (i := 0) C dX10_undo_21 rfl 0 rfl rfl ?_
    refine x_getI (q := 25) C (Nat.le_of_ble_eq_true rfl) ly_51 fk_RX10_136 rfl dX10_undo_22 rfl ?_
    refine x_bipush (q := 27) (z := 13) C dX10_undo_25 rfl rfl ?_
    refine x_iadd (q := 28) C dX10_undo_27  rfl ?_
    refine x_bipush (q := 30) (z := 14) C dX10_undo_28 rfl rfl ?_
    obtain ⟨o3, h⟩ := h
    refine x_irem (q := 31) C dX10_undo_30 ⟨o3, by decide⟩ rfl ?_
    refine x_putI (q := 34) C (Nat.le_of_ble_eq_true rfl) ly_51 fk_RX10_136 rfl tyX10 tyX10_ok nmX10 rfl (tyX10_ok 12 (Nat.le_of_ble_eq_true rfl)) dX10_undo_31 rfl ?_
    refine x_iconst (q := 35) (z := 0) C dX10_undo_34 rfl rfl ?_
    refine x_istore_n (q := 36) (i := 1) (lv' := [(0, .ref (ad 51)), (1, .int (iI 0))]) C dX10_undo_35 rfl (Nat.le_of_ble_eq_true rfl) [1, 0] rfl rfl ?_
    obtain ⟨I4, ⟨n04, h04⟩, hs4⟩ := h
    have L4 : ∀ (n4 : Nat) (v1_4 : Int) (σ4 : GS), I4 n4 v1_4 σ4 → V p l e rm_X10_undo s m args below meth c ad D cI cZ cG (Aw ad) 2 0 0 (MQ below (QI ad D cI cZ cG Post) args s 0 0 (Aw ad)) σ4 36 [(0, .ref (ad 51)), (1, .int (iI v1_4))] [] := by
      intro n4
      induction n4 using Nat.strongRecOn with
      | ind n4 ih4 =>
        intro v1_4 σ4 h
        have h := hs4 n4 v1_4 σ4 h
        refine x_iload_n (q := 37) (i := 1) C dX10_undo_36 rfl 1 rfl rfl ?_
        refine x_iconst (q := 38) (z := 5) C dX10_undo_37 rfl rfl ?_
        obtain ⟨o5, h⟩ := h
        refine x_icmp_ge (q := 41) (tgt := 66) C dX10_undo_38 rfl ⟨o5, by decide⟩ rfl (fun c6 => ?_) (fun c6 => ?_)
        · have h := h.1 c6
          refine x_aload_n (q := 67) (i := 0) C dX10_undo_66 rfl 0 rfl rfl ?_
          refine x_getI (q := 70) C (Nat.le_of_ble_eq_true rfl) ly_51 fk_RX10_78 rfl dX10_undo_67 rfl ?_
          exact x_iret C dX10_undo_70 h
        · have h := h.2 c6
          refine x_aload_n (q := 42) (i := 0) C dX10_undo_41 rfl 0 rfl rfl ?_
          refine x_getR (q := 45) (c0 := 54) C (Nat.le_of_ble_eq_true rfl) ly_51 fk_RX10_16 rfl dX10_undo_42 rfl ?_
          refine x_iload_n (q := 46) (i := 1) C dX10_undo_45 rfl 1 rfl rfl ?_
          refine x_aload_n (q := 47) (i := 0) C dX10_undo_46 rfl 0 rfl rfl ?_
          refine x_getR (q := 50) (c0 := 59) C (Nat.le_of_ble_eq_true rfl) ly_51 fk_RX10_31 rfl dX10_undo_47 rfl ?_
          refine x_iconst (q := 51) (z := 5) C dX10_undo_50 rfl rfl ?_
          refine x_aload_n (q := 52) (i := 0) C dX10_undo_51 rfl 0 rfl rfl ?_
          refine x_getI (q := 55) C (Nat.le_of_ble_eq_true rfl) ly_51 fk_RX10_136 rfl dX10_undo_52 rfl ?_
          refine x_imul (q := 56) C dX10_undo_55  rfl ?_
          refine x_iload_n (q := 57) (i := 1) C dX10_undo_56 rfl 1 rfl rfl ?_
          refine x_iadd (q := 58) C dX10_undo_57  rfl ?_
          obtain ⟨o7, h⟩ := h
          refine x_iald (q := 59) C (Nat.le_of_ble_eq_true rfl) ly_59 dX10_undo_58 (ix o7 rfl) (Nat.le_of_ble_eq_true rfl) rfl ?_
          obtain ⟨o8, h⟩ := h
          refine x_iast (q := 60) C (Nat.le_of_ble_eq_true rfl) ly_54 dX10_undo_59 (ix o8 rfl) (Nat.le_of_ble_eq_true rfl)  rfl ?_
          refine x_iinc (q := 63) (z' := v1_4 + 1) (lv' := [(0, .ref (ad 51)), (1, .int (iI (v1_4 + 1)))]) C dX10_undo_60 1 rfl rfl (Nat.le_of_ble_eq_true rfl) [1, 0] rfl rfl ?_
          refine x_goto (tgt := 36) C dX10_undo_63 rfl ?_
          obtain ⟨n9, hl10, h⟩ := h
          refine x_sub [0, 1] rfl ?_
          exact ih4 n9 hl10 _ _ h
    exact L4 n04 0 (up2 (up2 σ 51 11 ((σ 51 11) - 1)) 51 12 ((((up2 σ 51 11 ((σ 51 11) - 1)) 51 12) + 13) % 14)) h04
  · have h := h.2 c2
    refine x_bipush (q := 9) (z := (-3)) C dX10_undo_7 rfl rfl ?_
    exact x_iret C dX10_undo_9 h
abbrev rm_X10_layTrial : Room := { frames := 0, cells := 0, slots := 0, locals := 0 }
def vc_X10_layTrial (σ : GS)  (Post : GS → Prop) : Prop :=
  ∃ I1 : Nat → Int → GS → Prop, (∃ n : Nat, I1 n 0 σ) ∧ ∀ (n1 : Nat) (v1_1 : Int) (σ1 : GS), I1 n1 v1_1 σ1 →
  ((rg v1_1) ∧
      (((5 : Int) ≤ v1_1 →
        (Post σ1)) ∧
      (¬ (5 : Int) ≤ v1_1 →
        ((0 ≤ v1_1 ∧ v1_1 < 10) ∧
        ((0 ≤ (5 + v1_1) ∧ (5 + v1_1) < 10) ∧
        (∃ n' : Nat, n' < n1 ∧ I1 n' (v1_1 + 1) (up2 σ1 54 (5 + v1_1).toNat (σ1 54 v1_1.toNat))))))))
set_option maxHeartbeats 4000000 in
set_option maxRecDepth 10000 in
theorem m_X10_layTrial (l : Launch) {ad : Nat → Nat} {D : va_G} {cI cZ cG : ClassId} (hI : Ij ad) {σ : GS}  {Post : GS → Prop} (h : vc_X10_layTrial σ  Post) : Met l yX10_layTrial (wX yX10_layTrial cX10_layTrial 2 none) rm_X10_layTrial (va_Pc [.ref (ad 51)] (Wd ad D cI cZ cG σ)) (QV ad D cI cZ cG Post) 0 0 (Aw ad) := by
  refine met_V (own := RX10) hI (by decide +kernel) rfl (Nat.le_of_ble_eq_true rfl) ?_
  intro p e s m args below meth c C
  unfold vc_X10_layTrial at h
  show V p l e rm_X10_layTrial s m args below meth c ad D cI cZ cG (Aw ad) 2 0 0 (MQ below (QV ad D cI cZ cG Post) args s 0 0 (Aw ad)) σ 0 [(0, .ref (ad 51))] []
  refine x_iconst (q := 1) (z := 0) C dX10_layTrial_0 rfl rfl ?_
  refine x_istore_n (q := 2) (i := 1) (lv' := [(0, .ref (ad 51)), (1, .int (iI 0))]) C dX10_layTrial_1 rfl (Nat.le_of_ble_eq_true rfl) [1, 0] rfl rfl ?_
  obtain ⟨I1, ⟨n01, h01⟩, hs1⟩ := h
  have L1 : ∀ (n1 : Nat) (v1_1 : Int) (σ1 : GS), I1 n1 v1_1 σ1 → V p l e rm_X10_layTrial s m args below meth c ad D cI cZ cG (Aw ad) 2 0 0 (MQ below (QV ad D cI cZ cG Post) args s 0 0 (Aw ad)) σ1 2 [(0, .ref (ad 51)), (1, .int (iI v1_1))] [] := by
    intro n1
    induction n1 using Nat.strongRecOn with
    | ind n1 ih1 =>
      intro v1_1 σ1 h
      have h := hs1 n1 v1_1 σ1 h
      refine x_iload_n (q := 3) (i := 1) C dX10_layTrial_2 rfl 1 rfl rfl ?_
      refine x_iconst (q := 4) (z := 5) C dX10_layTrial_3 rfl rfl ?_
      obtain ⟨o2, h⟩ := h
      refine x_icmp_ge (q := 7) (tgt := 27) C dX10_layTrial_4 rfl ⟨o2, by decide⟩ rfl (fun c3 => ?_) (fun c3 => ?_)
      · have h := h.1 c3
        exact x_vret C dX10_layTrial_27 h
      · have h := h.2 c3
        refine x_aload_n (q := 8) (i := 0) C dX10_layTrial_7 rfl 0 rfl rfl ?_
        refine x_getR (q := 11) (c0 := 54) C (Nat.le_of_ble_eq_true rfl) ly_51 fk_RX10_16 rfl dX10_layTrial_8 rfl ?_
        refine x_iconst (q := 12) (z := 5) C dX10_layTrial_11 rfl rfl ?_
        refine x_iload_n (q := 13) (i := 1) C dX10_layTrial_12 rfl 1 rfl rfl ?_
        refine x_iadd (q := 14) C dX10_layTrial_13  rfl ?_
        refine x_aload_n (q := 15) (i := 0) C dX10_layTrial_14 rfl 0 rfl rfl ?_
        refine x_getR (q := 18) (c0 := 54) C (Nat.le_of_ble_eq_true rfl) ly_51 fk_RX10_16 rfl dX10_layTrial_15 rfl ?_
        refine x_iload_n (q := 19) (i := 1) C dX10_layTrial_18 rfl 1 rfl rfl ?_
        obtain ⟨o4, h⟩ := h
        refine x_iald (q := 20) C (Nat.le_of_ble_eq_true rfl) ly_54 dX10_layTrial_19 (ix o4 rfl) (Nat.le_of_ble_eq_true rfl) rfl ?_
        obtain ⟨o5, h⟩ := h
        refine x_iast (q := 21) C (Nat.le_of_ble_eq_true rfl) ly_54 dX10_layTrial_20 (ix o5 rfl) (Nat.le_of_ble_eq_true rfl)  rfl ?_
        refine x_iinc (q := 24) (z' := v1_1 + 1) (lv' := [(0, .ref (ad 51)), (1, .int (iI (v1_1 + 1)))]) C dX10_layTrial_21 1 rfl rfl (Nat.le_of_ble_eq_true rfl) [1, 0] rfl rfl ?_
        refine x_goto (tgt := 2) C dX10_layTrial_24 rfl ?_
        obtain ⟨n6, hl7, h⟩ := h
        refine x_sub [0, 1] rfl ?_
        exact ih1 n6 hl7 _ _ h
  exact L1 n01 0 σ h01
abbrev rm_X10_reads : Room := { frames := 6, cells := 0, slots := 0, locals := 152 }
def vc_X10_reads (σ : GS) (a0 : Int) (Post : Int → Prop) : Prop :=
  (rg a0) ∧
  (vc_X10_in σ a0 0 1 (fun (z2 : Int) =>
    (rg z2) ∧
  ((z2 = 0 →
    (Post (-2))) ∧
  (¬ z2 = 0 →
    (vc_X10_readsOn σ 0 63 a0 (fun (z5 : Int) =>
      Post z5))))))
set_option maxHeartbeats 4000000 in
set_option maxRecDepth 10000 in
theorem m_X10_reads (l : Launch) {ad : Nat → Nat} {D : va_G} {cI cZ cG : ClassId} (hI : Ij ad) {σ : GS} {a0 : Int} {Post : Int → Prop} (h : vc_X10_reads σ a0 Post) : Met l yX10_reads (wX yX10_reads cX10_reads 2 (some .int)) rm_X10_reads (va_Pc [.ref (ad 51), .int (iI a0)] (Wd ad D cI cZ cG σ)) (QI ad D cI cZ cG (fun z u => u = σ ∧ Post z)) 0 0 (Aw ad) := by
  refine met_V (own := RX10) hI (by decide +kernel) rfl (Nat.le_of_ble_eq_true rfl) ?_
  intro p e s m args below meth c C
  unfold vc_X10_reads at h
  show V p l e rm_X10_reads s m args below meth c ad D cI cZ cG (Aw ad) 2 0 0 (MQ below (QI ad D cI cZ cG (fun z u => u = σ ∧ Post z)) args s 0 0 (Aw ad)) σ 0 [(0, .ref (ad 51)), (1, .int (iI a0))] []
  refine x_iload_n (q := 1) (i := 1) C dX10_reads_0 rfl 1 rfl rfl ?_
  obtain ⟨o1, h⟩ := h
  refine x_i2l (q := 2) C dX10_reads_1 o1 rfl ?_
  refine x_lconst (q := 3) (z := 0) C dX10_reads_2 rfl rfl ?_
  refine x_lconst (q := 4) (z := 1) C dX10_reads_3 rfl rfl ?_
  refine x_staI (q := 7) C ck_RX10_52 t4_33 (m_X10_in l hI h) ⟨⟨rfl, rfl⟩, ⟨Nat.le_of_ble_eq_true rfl, Nat.le_of_ble_eq_true rfl⟩, ⟨Nat.zero_le _, Nat.zero_le _⟩⟩ dX10_reads_4 rfl rfl (Nat.le_of_ble_eq_true rfl) rfl (fun z2 σ2 h => ?_)
  rw [h.1]
  have h := h.2
  obtain ⟨o3, h⟩ := h
  refine x_if_eq (q := 10) (tgt := 21) C dX10_reads_7 rfl o3 rfl (fun c4 => ?_) (fun c4 => ?_)
  · have h := h.1 c4
    refine x_bipush (q := 23) (z := (-2)) C dX10_reads_21 rfl rfl ?_
    exact x_iret C dX10_reads_23 ⟨rfl, h⟩
  · have h := h.2 c4
    refine x_aload_n (q := 11) (i := 0) C dX10_reads_10 rfl 0 rfl rfl ?_
    refine x_iconst (q := 12) (z := 0) C dX10_reads_11 rfl rfl ?_
    refine x_bipush (q := 14) (z := 63) C dX10_reads_12 rfl rfl ?_
    refine x_iload_n (q := 15) (i := 1) C dX10_reads_14 rfl 1 rfl rfl ?_
    refine x_virI (q := 18) C (Nat.le_of_ble_eq_true rfl) ly_51 rfl ck_RX10_161 vk_X10_readsOn (m_X10_readsOn l hI h) ⟨⟨rfl, rfl⟩, ⟨Nat.le_of_ble_eq_true rfl, Nat.le_of_ble_eq_true rfl⟩, ⟨Nat.zero_le _, Nat.zero_le _⟩⟩ dX10_reads_15 rfl rfl (Nat.le_of_ble_eq_true rfl) rfl (fun z5 σ5 h => ?_)
    rw [h.1]
    have h := h.2
    refine x_goto (tgt := 23) C dX10_reads_18 rfl ?_
    exact x_iret C dX10_reads_23 ⟨rfl, h⟩
abbrev rm_X10_waysMany : Room := { frames := 1, cells := 0, slots := 0, locals := 20 }
def vc_X10_waysMany (σ : GS)  (Post : Int → Prop) : Prop :=
  ∃ I1 : Nat → Int → Int → Prop, (∃ n : Nat, I1 n 1 0) ∧ ∀ (n1 : Nat) (v1_1 : Int) (v2_1 : Int), I1 n1 v1_1 v2_1 →
  (vc_X10_gapMany σ  (fun (z2 : Int) =>
        (rg v2_1) ∧
      ((rg z2) ∧
      ((z2 ≤ v2_1 →
        (Post v1_1)) ∧
      (¬ z2 ≤ v2_1 →
        (∃ n' : Nat, n' < n1 ∧ I1 n' (v1_1 * 5) (v2_1 + 1)))))))
set_option maxHeartbeats 4000000 in
set_option maxRecDepth 10000 in
theorem m_X10_waysMany (l : Launch) {ad : Nat → Nat} {D : va_G} {cI cZ cG : ClassId} (hI : Ij ad) {σ : GS}  {Post : Int → Prop} (h : vc_X10_waysMany σ  Post) : Met l yX10_waysMany (wX yX10_waysMany cX10_waysMany 3 (some .int)) rm_X10_waysMany (va_Pc [.ref (ad 51)] (Wd ad D cI cZ cG σ)) (QI ad D cI cZ cG (fun z u => u = σ ∧ Post z)) 0 0 (Aw ad) := by
  refine met_V (own := RX10) hI (by decide +kernel) rfl (Nat.le_of_ble_eq_true rfl) ?_
  intro p e s m args below meth c C
  unfold vc_X10_waysMany at h
  show V p l e rm_X10_waysMany s m args below meth c ad D cI cZ cG (Aw ad) 3 0 0 (MQ below (QI ad D cI cZ cG (fun z u => u = σ ∧ Post z)) args s 0 0 (Aw ad)) σ 0 [(0, .ref (ad 51))] []
  refine x_iconst (q := 1) (z := 1) C dX10_waysMany_0 rfl rfl ?_
  refine x_istore_n (q := 2) (i := 1) (lv' := [(0, .ref (ad 51)), (1, .int (iI 1))]) C dX10_waysMany_1 rfl (Nat.le_of_ble_eq_true rfl) [1, 0] rfl rfl ?_
  refine x_iconst (q := 3) (z := 0) C dX10_waysMany_2 rfl rfl ?_
  refine x_istore_n (q := 4) (i := 2) (lv' := [(0, .ref (ad 51)), (1, .int (iI 1)), (2, .int (iI 0))]) C dX10_waysMany_3 rfl (Nat.le_of_ble_eq_true rfl) [1, 2, 0] rfl rfl ?_
  obtain ⟨I1, ⟨n01, h01⟩, hs1⟩ := h
  have L1 : ∀ (n1 : Nat) (v1_1 : Int) (v2_1 : Int), I1 n1 v1_1 v2_1 → V p l e rm_X10_waysMany s m args below meth c ad D cI cZ cG (Aw ad) 3 0 0 (MQ below (QI ad D cI cZ cG (fun z u => u = σ ∧ Post z)) args s 0 0 (Aw ad)) σ 4 [(0, .ref (ad 51)), (1, .int (iI v1_1)), (2, .int (iI v2_1))] [] := by
    intro n1
    induction n1 using Nat.strongRecOn with
    | ind n1 ih1 =>
      intro v1_1 v2_1 h
      have h := hs1 n1 v1_1 v2_1 h
      refine x_iload_n (q := 5) (i := 2) C dX10_waysMany_4 rfl 2 rfl rfl ?_
      refine x_aload_n (q := 6) (i := 0) C dX10_waysMany_5 rfl 0 rfl rfl ?_
      refine x_virI (q := 9) C (Nat.le_of_ble_eq_true rfl) ly_51 rfl ck_RX10_81 vk_X10_gapMany (m_X10_gapMany l hI h) ⟨⟨rfl, rfl⟩, ⟨Nat.le_of_ble_eq_true rfl, Nat.le_of_ble_eq_true rfl⟩, ⟨Nat.zero_le _, Nat.zero_le _⟩⟩ dX10_waysMany_6 rfl rfl (Nat.le_of_ble_eq_true rfl) rfl (fun z2 σ2 h => ?_)
      rw [h.1]
      have h := h.2
      obtain ⟨o3, h⟩ := h
      obtain ⟨o4, h⟩ := h
      refine x_icmp_ge (q := 12) (tgt := 22) C dX10_waysMany_9 rfl ⟨o3, o4⟩ rfl (fun c5 => ?_) (fun c5 => ?_)
      · have h := h.1 c5
        refine x_iload_n (q := 23) (i := 1) C dX10_waysMany_22 rfl 1 rfl rfl ?_
        exact x_iret C dX10_waysMany_23 ⟨rfl, h⟩
      · have h := h.2 c5
        refine x_iload_n (q := 13) (i := 1) C dX10_waysMany_12 rfl 1 rfl rfl ?_
        refine x_iconst (q := 14) (z := 5) C dX10_waysMany_13 rfl rfl ?_
        refine x_imul (q := 15) C dX10_waysMany_14  rfl ?_
        refine x_istore_n (q := 16) (i := 1) (lv' := [(0, .ref (ad 51)), (1, .int (iI (v1_1 * 5))), (2, .int (iI v2_1))]) C dX10_waysMany_15 rfl (Nat.le_of_ble_eq_true rfl) [1, 0, 2] rfl rfl ?_
        refine x_iinc (q := 19) (z' := v2_1 + 1) (lv' := [(0, .ref (ad 51)), (1, .int (iI (v1_1 * 5))), (2, .int (iI (v2_1 + 1)))]) C dX10_waysMany_16 2 rfl rfl (Nat.le_of_ble_eq_true rfl) [1, 2, 0] rfl rfl ?_
        refine x_goto (tgt := 4) C dX10_waysMany_19 rfl ?_
        obtain ⟨n6, hl7, h⟩ := h
        refine x_sub [0, 1, 2] rfl ?_
        exact ih1 n6 hl7 _ _ h
  exact L1 n01 1 0 h01
abbrev rm_X10_layWay : Room := { frames := 1, cells := 0, slots := 0, locals := 21 }
def vc_X10_layWay (σ : GS) (a0 : Int) (Post : Int → GS → Prop) : Prop :=
  vc_X10_gapMany σ  (fun (z1 : Int) =>
    ∃ I2 : Nat → Int → Int → Int → GS → Prop, (∃ n : Nat, I2 n a0 1 (z1 - 1) σ) ∧ ∀ (n2 : Nat) (v2_2 : Int) (v3_2 : Int) (v4_2 : Int) (σ2 : GS), I2 n2 v2_2 v3_2 v4_2 σ2 →
  ((rg v4_2) ∧
      ((v4_2 < 0 →
        ((v3_2 = 0 ∨ v3_2 = 1) ∧
        (Post v3_2 σ2))) ∧
      (¬ v4_2 < 0 →
        ((0 ≤ v2_2 ∧ v2_2 ≤ 2147483647) ∧
        ((0 ≤ (5 + v4_2) ∧ (5 + v4_2) < 10) ∧
        ((rg v3_2) ∧
        ((v3_2 = 0 →
          (∃ n' : Nat, n' < n2 ∧ I2 n' (v2_2 / 5) 0 (v4_2 + (-1)) (up2 σ2 54 (5 + v4_2).toNat (v2_2 % 5)))) ∧
        (¬ v3_2 = 0 →
          (vc_X10_isFree (up2 σ2 54 (5 + v4_2).toNat (v2_2 % 5)) v4_2 (fun (z12 : Int) =>
            (rg z12) ∧
          ((¬ z12 = 0 →
            (∃ n' : Nat, n' < n2 ∧ I2 n' (v2_2 / 5) 1 (v4_2 + (-1)) (up2 σ2 54 (5 + v4_2).toNat (v2_2 % 5)))) ∧
          (z12 = 0 →
            ((rg (v2_2 % 5)) ∧
            ((¬ (v2_2 % 5) = 0 →
              (∃ n' : Nat, n' < n2 ∧ I2 n' (v2_2 / 5) 0 (v4_2 + (-1)) (up2 σ2 54 (5 + v4_2).toNat (v2_2 % 5)))) ∧
            ((v2_2 % 5) = 0 →
              (∃ n' : Nat, n' < n2 ∧ I2 n' (v2_2 / 5) 1 (v4_2 + (-1)) (up2 σ2 54 (5 + v4_2).toNat (v2_2 % 5)))))))))))))))))))
set_option maxHeartbeats 4000000 in
set_option maxRecDepth 10000 in
theorem m_X10_layWay (l : Launch) {ad : Nat → Nat} {D : va_G} {cI cZ cG : ClassId} (hI : Ij ad) {σ : GS} {a0 : Int} {Post : Int → GS → Prop} (h : vc_X10_layWay σ a0 Post) : Met l yX10_layWay (wX yX10_layWay cX10_layWay 5 (some .boolean)) rm_X10_layWay (va_Pc [.ref (ad 51), .int (iI a0)] (Wd ad D cI cZ cG σ)) (QI ad D cI cZ cG Post) 0 0 (Aw ad) := by
  refine met_V (own := RX10) hI (by decide +kernel) rfl (Nat.le_of_ble_eq_true rfl) ?_
  intro p e s m args below meth c C
  unfold vc_X10_layWay at h
  show V p l e rm_X10_layWay s m args below meth c ad D cI cZ cG (Aw ad) 5 0 0 (MQ below (QI ad D cI cZ cG Post) args s 0 0 (Aw ad)) σ 0 [(0, .ref (ad 51)), (1, .int (iI a0))] []
  refine x_iload_n (q := 1) (i := 1) C dX10_layWay_0 rfl 1 rfl rfl ?_
  refine x_istore_n (q := 2) (i := 2) (lv' := [(0, .ref (ad 51)), (1, .int (iI a0)), (2, .int (iI a0))]) C dX10_layWay_1 rfl (Nat.le_of_ble_eq_true rfl) [1, 2, 0] rfl rfl ?_
  refine x_iconst (q := 3) (z := 1) C dX10_layWay_2 rfl rfl ?_
  refine x_istore_n (q := 4) (i := 3) (lv' := [(0, .ref (ad 51)), (1, .int (iI a0)), (2, .int (iI a0)), (3, .int (iI 1))]) C dX10_layWay_3 rfl (Nat.le_of_ble_eq_true rfl) [1, 2, 3, 0] rfl rfl ?_
  refine x_aload_n (q := 5) (i := 0) C dX10_layWay_4 rfl 0 rfl rfl ?_
  refine x_virI (q := 8) C (Nat.le_of_ble_eq_true rfl) ly_51 rfl ck_RX10_81 vk_X10_gapMany (m_X10_gapMany l hI h) ⟨⟨rfl, rfl⟩, ⟨Nat.le_of_ble_eq_true rfl, Nat.le_of_ble_eq_true rfl⟩, ⟨Nat.zero_le _, Nat.zero_le _⟩⟩ dX10_layWay_5 rfl rfl (Nat.le_of_ble_eq_true rfl) rfl (fun z1 σ1 h => ?_)
  rw [h.1]
  have h := h.2
  refine x_iconst (q := 9) (z := 1) C dX10_layWay_8 rfl rfl ?_
  refine x_isub (q := 10) C dX10_layWay_9  rfl ?_
  refine x_istore (q := 12) (i := 4) (lv' := [(0, .ref (ad 51)), (1, .int (iI a0)), (2, .int (iI a0)), (3, .int (iI 1)), (4, .int (iI (z1 - 1)))]) C dX10_layWay_10 (Nat.le_of_ble_eq_true rfl) [1, 2, 3, 4, 0] rfl rfl ?_
  obtain ⟨I2, ⟨n02, h02⟩, hs2⟩ := h
  have L2 : ∀ (n2 : Nat) (v2_2 : Int) (v3_2 : Int) (v4_2 : Int) (σ2 : GS), I2 n2 v2_2 v3_2 v4_2 σ2 → V p l e rm_X10_layWay s m args below meth c ad D cI cZ cG (Aw ad) 5 0 0 (MQ below (QI ad D cI cZ cG Post) args s 0 0 (Aw ad)) σ2 12 [(0, .ref (ad 51)), (1, .int (iI a0)), (2, .int (iI v2_2)), (3, .int (iI v3_2)), (4, .int (iI v4_2))] [] := by
    intro n2
    induction n2 using Nat.strongRecOn with
    | ind n2 ih2 =>
      intro v2_2 v3_2 v4_2 σ2 h
      have h := hs2 n2 v2_2 v3_2 v4_2 σ2 h
      refine x_iload (q := 14) C dX10_layWay_12 4 rfl rfl ?_
      obtain ⟨o3, h⟩ := h
      refine x_if_lt (q := 17) (tgt := 64) C dX10_layWay_14 rfl o3 rfl (fun c4 => ?_) (fun c4 => ?_)
      · have h := h.1 c4
        refine x_iload_n (q := 65) (i := 3) C dX10_layWay_64 rfl 3 rfl rfl ?_
        obtain ⟨o5, h⟩ := h
        exact x_zret C dX10_layWay_65 o5 h
      · have h := h.2 c4
        refine x_aload_n (q := 18) (i := 0) C dX10_layWay_17 rfl 0 rfl rfl ?_
        refine x_getR (q := 21) (c0 := 54) C (Nat.le_of_ble_eq_true rfl) ly_51 fk_RX10_16 rfl dX10_layWay_18 rfl ?_
        refine x_iconst (q := 22) (z := 5) C dX10_layWay_21 rfl rfl ?_
        refine x_iload (q := 24) C dX10_layWay_22 4 rfl rfl ?_
        refine x_iadd (q := 25) C dX10_layWay_24  rfl ?_
        refine x_iload_n (q := 26) (i := 2) C dX10_layWay_25 rfl 2 rfl rfl ?_
        refine x_iconst (q := 27) (z := 5) C dX10_layWay_26 rfl rfl ?_
        obtain ⟨o6, h⟩ := h
        refine x_irem (q := 28) C dX10_layWay_27 ⟨o6, by decide⟩ rfl ?_
        obtain ⟨o7, h⟩ := h
        refine x_iast (q := 29) C (Nat.le_of_ble_eq_true rfl) ly_54 dX10_layWay_28 (ix o7 rfl) (Nat.le_of_ble_eq_true rfl)  rfl ?_
        refine x_iload_n (q := 30) (i := 3) C dX10_layWay_29 rfl 3 rfl rfl ?_
        obtain ⟨o8, h⟩ := h
        refine x_if_eq (q := 33) (tgt := 52) C dX10_layWay_30 rfl o8 rfl (fun c9 => ?_) (fun c9 => ?_)
        · have h := h.1 c9
          refine x_iconst (q := 53) (z := 0) C dX10_layWay_52 rfl rfl ?_
          refine x_istore_n (q := 54) (i := 3) (lv' := [(0, .ref (ad 51)), (1, .int (iI a0)), (2, .int (iI v2_2)), (3, .int (iI 0)), (4, .int (iI v4_2))]) C dX10_layWay_53 rfl (Nat.le_of_ble_eq_true rfl) [1, 2, 3, 0, 4] rfl rfl ?_
          refine x_iload_n (q := 55) (i := 2) C dX10_layWay_54 rfl 2 rfl rfl ?_
          refine x_iconst (q := 56) (z := 5) C dX10_layWay_55 rfl rfl ?_
          refine x_idiv (q := 57) C dX10_layWay_56 ⟨o6, by decide⟩ rfl ?_
          refine x_istore_n (q := 58) (i := 2) (lv' := [(0, .ref (ad 51)), (1, .int (iI a0)), (2, .int (iI (v2_2 / 5))), (3, .int (iI 0)), (4, .int (iI v4_2))]) C dX10_layWay_57 rfl (Nat.le_of_ble_eq_true rfl) [1, 2, 0, 3, 4] rfl rfl ?_
          refine x_iinc (q := 61) (z' := v4_2 + (-1)) (lv' := [(0, .ref (ad 51)), (1, .int (iI a0)), (2, .int (iI (v2_2 / 5))), (3, .int (iI 0)), (4, .int (iI (v4_2 + (-1))))]) C dX10_layWay_58 4 rfl rfl (Nat.le_of_ble_eq_true rfl) [1, 2, 3, 4, 0] rfl rfl ?_
          refine x_goto (tgt := 12) C dX10_layWay_61 rfl ?_
          obtain ⟨n10, hl11, h⟩ := h
          refine x_sub [0, 1, 2, 3, 4] rfl ?_
          exact ih2 n10 hl11 _ _ _ _ h
        · have h := h.2 c9
          refine x_aload_n (q := 34) (i := 0) C dX10_layWay_33 rfl 0 rfl rfl ?_
          refine x_iload (q := 36) C dX10_layWay_34 4 rfl rfl ?_
          refine x_virI (q := 39) C (Nat.le_of_ble_eq_true rfl) ly_51 rfl ck_RX10_139 vk_X10_isFree (m_X10_isFree l hI h) ⟨⟨rfl, rfl⟩, ⟨Nat.le_of_ble_eq_true rfl, Nat.le_of_ble_eq_true rfl⟩, ⟨Nat.zero_le _, Nat.zero_le _⟩⟩ dX10_layWay_36 rfl rfl (Nat.le_of_ble_eq_true rfl) rfl (fun z12 σ12 h => ?_)
          rw [h.1]
          have h := h.2
          obtain ⟨o13, h⟩ := h
          refine x_if_ne (q := 42) (tgt := 48) C dX10_layWay_39 rfl o13 rfl (fun c14 => ?_) (fun c14 => ?_)
          · have h := h.1 c14
            refine x_iconst (q := 49) (z := 1) C dX10_layWay_48 rfl rfl ?_
            refine x_goto (tgt := 53) C dX10_layWay_49 rfl ?_
            refine x_istore_n (q := 54) (i := 3) (lv' := [(0, .ref (ad 51)), (1, .int (iI a0)), (2, .int (iI v2_2)), (3, .int (iI 1)), (4, .int (iI v4_2))]) C dX10_layWay_53 rfl (Nat.le_of_ble_eq_true rfl) [1, 2, 3, 0, 4] rfl rfl ?_
            refine x_iload_n (q := 55) (i := 2) C dX10_layWay_54 rfl 2 rfl rfl ?_
            refine x_iconst (q := 56) (z := 5) C dX10_layWay_55 rfl rfl ?_
            refine x_idiv (q := 57) C dX10_layWay_56 ⟨o6, by decide⟩ rfl ?_
            refine x_istore_n (q := 58) (i := 2) (lv' := [(0, .ref (ad 51)), (1, .int (iI a0)), (2, .int (iI (v2_2 / 5))), (3, .int (iI 1)), (4, .int (iI v4_2))]) C dX10_layWay_57 rfl (Nat.le_of_ble_eq_true rfl) [1, 2, 0, 3, 4] rfl rfl ?_
            refine x_iinc (q := 61) (z' := v4_2 + (-1)) (lv' := [(0, .ref (ad 51)), (1, .int (iI a0)), (2, .int (iI (v2_2 / 5))), (3, .int (iI 1)), (4, .int (iI (v4_2 + (-1))))]) C dX10_layWay_58 4 rfl rfl (Nat.le_of_ble_eq_true rfl) [1, 2, 3, 4, 0] rfl rfl ?_
            refine x_goto (tgt := 12) C dX10_layWay_61 rfl ?_
            obtain ⟨n15, hl16, h⟩ := h
            refine x_sub [0, 1, 2, 3, 4] rfl ?_
            exact ih2 n15 hl16 _ _ _ _ h
          · have h := h.2 c14
            refine x_iload_n (q := 43) (i := 2) C dX10_layWay_42 rfl 2 rfl rfl ?_
            refine x_iconst (q := 44) (z := 5) C dX10_layWay_43 rfl rfl ?_
            refine x_irem (q := 45) C dX10_layWay_44 ⟨o6, by decide⟩ rfl ?_
            obtain ⟨o17, h⟩ := h
            refine x_if_ne (q := 48) (tgt := 52) C dX10_layWay_45 rfl o17 rfl (fun c18 => ?_) (fun c18 => ?_)
            · have h := h.1 c18
              refine x_iconst (q := 53) (z := 0) C dX10_layWay_52 rfl rfl ?_
              refine x_istore_n (q := 54) (i := 3) (lv' := [(0, .ref (ad 51)), (1, .int (iI a0)), (2, .int (iI v2_2)), (3, .int (iI 0)), (4, .int (iI v4_2))]) C dX10_layWay_53 rfl (Nat.le_of_ble_eq_true rfl) [1, 2, 3, 0, 4] rfl rfl ?_
              refine x_iload_n (q := 55) (i := 2) C dX10_layWay_54 rfl 2 rfl rfl ?_
              refine x_iconst (q := 56) (z := 5) C dX10_layWay_55 rfl rfl ?_
              refine x_idiv (q := 57) C dX10_layWay_56 ⟨o6, by decide⟩ rfl ?_
              refine x_istore_n (q := 58) (i := 2) (lv' := [(0, .ref (ad 51)), (1, .int (iI a0)), (2, .int (iI (v2_2 / 5))), (3, .int (iI 0)), (4, .int (iI v4_2))]) C dX10_layWay_57 rfl (Nat.le_of_ble_eq_true rfl) [1, 2, 0, 3, 4] rfl rfl ?_
              refine x_iinc (q := 61) (z' := v4_2 + (-1)) (lv' := [(0, .ref (ad 51)), (1, .int (iI a0)), (2, .int (iI (v2_2 / 5))), (3, .int (iI 0)), (4, .int (iI (v4_2 + (-1))))]) C dX10_layWay_58 4 rfl rfl (Nat.le_of_ble_eq_true rfl) [1, 2, 3, 4, 0] rfl rfl ?_
              refine x_goto (tgt := 12) C dX10_layWay_61 rfl ?_
              obtain ⟨n19, hl20, h⟩ := h
              refine x_sub [0, 1, 2, 3, 4] rfl ?_
              exact ih2 n19 hl20 _ _ _ _ h
            · have h := h.2 c18
              refine x_iconst (q := 49) (z := 1) C dX10_layWay_48 rfl rfl ?_
              refine x_goto (tgt := 53) C dX10_layWay_49 rfl ?_
              refine x_istore_n (q := 54) (i := 3) (lv' := [(0, .ref (ad 51)), (1, .int (iI a0)), (2, .int (iI v2_2)), (3, .int (iI 1)), (4, .int (iI v4_2))]) C dX10_layWay_53 rfl (Nat.le_of_ble_eq_true rfl) [1, 2, 3, 0, 4] rfl rfl ?_
              refine x_iload_n (q := 55) (i := 2) C dX10_layWay_54 rfl 2 rfl rfl ?_
              refine x_iconst (q := 56) (z := 5) C dX10_layWay_55 rfl rfl ?_
              refine x_idiv (q := 57) C dX10_layWay_56 ⟨o6, by decide⟩ rfl ?_
              refine x_istore_n (q := 58) (i := 2) (lv' := [(0, .ref (ad 51)), (1, .int (iI a0)), (2, .int (iI (v2_2 / 5))), (3, .int (iI 1)), (4, .int (iI v4_2))]) C dX10_layWay_57 rfl (Nat.le_of_ble_eq_true rfl) [1, 2, 0, 3, 4] rfl rfl ?_
              refine x_iinc (q := 61) (z' := v4_2 + (-1)) (lv' := [(0, .ref (ad 51)), (1, .int (iI a0)), (2, .int (iI (v2_2 / 5))), (3, .int (iI 1)), (4, .int (iI (v4_2 + (-1))))]) C dX10_layWay_58 4 rfl rfl (Nat.le_of_ble_eq_true rfl) [1, 2, 3, 4, 0] rfl rfl ?_
              refine x_goto (tgt := 12) C dX10_layWay_61 rfl ?_
              obtain ⟨n21, hl22, h⟩ := h
              refine x_sub [0, 1, 2, 3, 4] rfl ?_
              exact ih2 n21 hl22 _ _ _ _ h
  exact L2 n02 a0 1 (z1 - 1) σ h02
abbrev rm_X10_figuresOf : Room := { frames := 1, cells := 0, slots := 0, locals := 20 }
def vc_X10_figuresOf (σ : GS) (a0 : Int) (Post : Int → Prop) : Prop :=
  ∃ I1 : Nat → Int → Int → Prop, (∃ n : Nat, I1 n 0 0) ∧ ∀ (n1 : Nat) (v2_1 : Int) (v3_1 : Int), I1 n1 v2_1 v3_1 →
  (vc_X10_gapMany σ  (fun (z2 : Int) =>
        (rg v3_1) ∧
      ((rg z2) ∧
      ((z2 ≤ v3_1 →
        (Post v2_1)) ∧
      (¬ z2 ≤ v3_1 →
        ((0 ≤ ((5 * a0) + v3_1) ∧ ((5 * a0) + v3_1) < 10) ∧
        (∃ n' : Nat, n' < n1 ∧ I1 n' ((10 * v2_1) + (σ 54 ((5 * a0) + v3_1).toNat)) (v3_1 + 1))))))))
set_option maxHeartbeats 4000000 in
set_option maxRecDepth 10000 in
theorem m_X10_figuresOf (l : Launch) {ad : Nat → Nat} {D : va_G} {cI cZ cG : ClassId} (hI : Ij ad) {σ : GS} {a0 : Int} {Post : Int → Prop} (h : vc_X10_figuresOf σ a0 Post) : Met l yX10_figuresOf (wX yX10_figuresOf cX10_figuresOf 4 (some .int)) rm_X10_figuresOf (va_Pc [.ref (ad 51), .int (iI a0)] (Wd ad D cI cZ cG σ)) (QI ad D cI cZ cG (fun z u => u = σ ∧ Post z)) 0 0 (Aw ad) := by
  refine met_V (own := RX10) hI (by decide +kernel) rfl (Nat.le_of_ble_eq_true rfl) ?_
  intro p e s m args below meth c C
  unfold vc_X10_figuresOf at h
  show V p l e rm_X10_figuresOf s m args below meth c ad D cI cZ cG (Aw ad) 4 0 0 (MQ below (QI ad D cI cZ cG (fun z u => u = σ ∧ Post z)) args s 0 0 (Aw ad)) σ 0 [(0, .ref (ad 51)), (1, .int (iI a0))] []
  refine x_iconst (q := 1) (z := 0) C dX10_figuresOf_0 rfl rfl ?_
  refine x_istore_n (q := 2) (i := 2) (lv' := [(0, .ref (ad 51)), (1, .int (iI a0)), (2, .int (iI 0))]) C dX10_figuresOf_1 rfl (Nat.le_of_ble_eq_true rfl) [1, 2, 0] rfl rfl ?_
  refine x_iconst (q := 3) (z := 0) C dX10_figuresOf_2 rfl rfl ?_
  refine x_istore_n (q := 4) (i := 3) (lv' := [(0, .ref (ad 51)), (1, .int (iI a0)), (2, .int (iI 0)), (3, .int (iI 0))]) C dX10_figuresOf_3 rfl (Nat.le_of_ble_eq_true rfl) [1, 2, 3, 0] rfl rfl ?_
  obtain ⟨I1, ⟨n01, h01⟩, hs1⟩ := h
  have L1 : ∀ (n1 : Nat) (v2_1 : Int) (v3_1 : Int), I1 n1 v2_1 v3_1 → V p l e rm_X10_figuresOf s m args below meth c ad D cI cZ cG (Aw ad) 4 0 0 (MQ below (QI ad D cI cZ cG (fun z u => u = σ ∧ Post z)) args s 0 0 (Aw ad)) σ 4 [(0, .ref (ad 51)), (1, .int (iI a0)), (2, .int (iI v2_1)), (3, .int (iI v3_1))] [] := by
    intro n1
    induction n1 using Nat.strongRecOn with
    | ind n1 ih1 =>
      intro v2_1 v3_1 h
      have h := hs1 n1 v2_1 v3_1 h
      refine x_iload_n (q := 5) (i := 3) C dX10_figuresOf_4 rfl 3 rfl rfl ?_
      refine x_aload_n (q := 6) (i := 0) C dX10_figuresOf_5 rfl 0 rfl rfl ?_
      refine x_virI (q := 9) C (Nat.le_of_ble_eq_true rfl) ly_51 rfl ck_RX10_81 vk_X10_gapMany (m_X10_gapMany l hI h) ⟨⟨rfl, rfl⟩, ⟨Nat.le_of_ble_eq_true rfl, Nat.le_of_ble_eq_true rfl⟩, ⟨Nat.zero_le _, Nat.zero_le _⟩⟩ dX10_figuresOf_6 rfl rfl (Nat.le_of_ble_eq_true rfl) rfl (fun z2 σ2 h => ?_)
      rw [h.1]
      have h := h.2
      obtain ⟨o3, h⟩ := h
      obtain ⟨o4, h⟩ := h
      refine x_icmp_ge (q := 12) (tgt := 34) C dX10_figuresOf_9 rfl ⟨o3, o4⟩ rfl (fun c5 => ?_) (fun c5 => ?_)
      · have h := h.1 c5
        refine x_iload_n (q := 35) (i := 2) C dX10_figuresOf_34 rfl 2 rfl rfl ?_
        exact x_iret C dX10_figuresOf_35 ⟨rfl, h⟩
      · have h := h.2 c5
        refine x_bipush (q := 14) (z := 10) C dX10_figuresOf_12 rfl rfl ?_
        refine x_iload_n (q := 15) (i := 2) C dX10_figuresOf_14 rfl 2 rfl rfl ?_
        refine x_imul (q := 16) C dX10_figuresOf_15  rfl ?_
        refine x_aload_n (q := 17) (i := 0) C dX10_figuresOf_16 rfl 0 rfl rfl ?_
        refine x_getR (q := 20) (c0 := 54) C (Nat.le_of_ble_eq_true rfl) ly_51 fk_RX10_16 rfl dX10_figuresOf_17 rfl ?_
        refine x_iconst (q := 21) (z := 5) C dX10_figuresOf_20 rfl rfl ?_
        refine x_iload_n (q := 22) (i := 1) C dX10_figuresOf_21 rfl 1 rfl rfl ?_
        refine x_imul (q := 23) C dX10_figuresOf_22  rfl ?_
        refine x_iload_n (q := 24) (i := 3) C dX10_figuresOf_23 rfl 3 rfl rfl ?_
        refine x_iadd (q := 25) C dX10_figuresOf_24  rfl ?_
        obtain ⟨o6, h⟩ := h
        refine x_iald (q := 26) C (Nat.le_of_ble_eq_true rfl) ly_54 dX10_figuresOf_25 (ix o6 rfl) (Nat.le_of_ble_eq_true rfl) rfl ?_
        refine x_iadd (q := 27) C dX10_figuresOf_26  rfl ?_
        refine x_istore_n (q := 28) (i := 2) (lv' := [(0, .ref (ad 51)), (1, .int (iI a0)), (2, .int (iI ((10 * v2_1) + (σ 54 ((5 * a0) + v3_1).toNat)))), (3, .int (iI v3_1))]) C dX10_figuresOf_27 rfl (Nat.le_of_ble_eq_true rfl) [1, 2, 0, 3] rfl rfl ?_
        refine x_iinc (q := 31) (z' := v3_1 + 1) (lv' := [(0, .ref (ad 51)), (1, .int (iI a0)), (2, .int (iI ((10 * v2_1) + (σ 54 ((5 * a0) + v3_1).toNat)))), (3, .int (iI (v3_1 + 1)))]) C dX10_figuresOf_28 3 rfl rfl (Nat.le_of_ble_eq_true rfl) [1, 2, 3, 0] rfl rfl ?_
        refine x_goto (tgt := 4) C dX10_figuresOf_31 rfl ?_
        obtain ⟨n7, hl8, h⟩ := h
        refine x_sub [0, 1, 2, 3] rfl ?_
        exact ih1 n7 hl8 _ _ h
  exact L1 n01 0 0 h01
abbrev rm_X10_farOf : Room := { frames := 1, cells := 0, slots := 0, locals := 20 }
def vc_X10_farOf (σ : GS)  (Post : Int → Prop) : Prop :=
  ∃ I1 : Nat → Int → Int → Prop, (∃ n : Nat, I1 n 0 0) ∧ ∀ (n1 : Nat) (v1_1 : Int) (v2_1 : Int), I1 n1 v1_1 v2_1 →
  (vc_X10_gapMany σ  (fun (z2 : Int) =>
        (rg v2_1) ∧
      ((rg z2) ∧
      ((z2 ≤ v2_1 →
        (Post v1_1)) ∧
      (¬ z2 ≤ v2_1 →
        ((0 ≤ (5 + v2_1) ∧ (5 + v2_1) < 10) ∧
        ((0 ≤ v2_1 ∧ v2_1 < 10) ∧
        ((rg ((σ 54 (5 + v2_1).toNat) - (σ 54 v2_1.toNat))) ∧
        (((0 : Int) ≤ ((σ 54 (5 + v2_1).toNat) - (σ 54 v2_1.toNat)) →
          (∃ n' : Nat, n' < n1 ∧ I1 n' (v1_1 + ((σ 54 (5 + v2_1).toNat) - (σ 54 v2_1.toNat))) (v2_1 + 1))) ∧
        (¬ (0 : Int) ≤ ((σ 54 (5 + v2_1).toNat) - (σ 54 v2_1.toNat)) →
          (∃ n' : Nat, n' < n1 ∧ I1 n' (v1_1 + (-((σ 54 (5 + v2_1).toNat) - (σ 54 v2_1.toNat)))) (v2_1 + 1))))))))))))
set_option maxHeartbeats 4000000 in
set_option maxRecDepth 10000 in
theorem m_X10_farOf (l : Launch) {ad : Nat → Nat} {D : va_G} {cI cZ cG : ClassId} (hI : Ij ad) {σ : GS}  {Post : Int → Prop} (h : vc_X10_farOf σ  Post) : Met l yX10_farOf (wX yX10_farOf cX10_farOf 4 (some .int)) rm_X10_farOf (va_Pc [.ref (ad 51)] (Wd ad D cI cZ cG σ)) (QI ad D cI cZ cG (fun z u => u = σ ∧ Post z)) 0 0 (Aw ad) := by
  refine met_V (own := RX10) hI (by decide +kernel) rfl (Nat.le_of_ble_eq_true rfl) ?_
  intro p e s m args below meth c C
  unfold vc_X10_farOf at h
  show V p l e rm_X10_farOf s m args below meth c ad D cI cZ cG (Aw ad) 4 0 0 (MQ below (QI ad D cI cZ cG (fun z u => u = σ ∧ Post z)) args s 0 0 (Aw ad)) σ 0 [(0, .ref (ad 51))] []
  refine x_iconst (q := 1) (z := 0) C dX10_farOf_0 rfl rfl ?_
  refine x_istore_n (q := 2) (i := 1) (lv' := [(0, .ref (ad 51)), (1, .int (iI 0))]) C dX10_farOf_1 rfl (Nat.le_of_ble_eq_true rfl) [1, 0] rfl rfl ?_
  refine x_iconst (q := 3) (z := 0) C dX10_farOf_2 rfl rfl ?_
  refine x_istore_n (q := 4) (i := 2) (lv' := [(0, .ref (ad 51)), (1, .int (iI 0)), (2, .int (iI 0))]) C dX10_farOf_3 rfl (Nat.le_of_ble_eq_true rfl) [1, 2, 0] rfl rfl ?_
  obtain ⟨I1, ⟨n01, h01⟩, hs1⟩ := h
  have L1 : ∀ (n1 : Nat) (v1_1 : Int) (v2_1 : Int), I1 n1 v1_1 v2_1 → V p l e rm_X10_farOf s m args below meth c ad D cI cZ cG (Aw ad) 4 0 0 (MQ below (QI ad D cI cZ cG (fun z u => u = σ ∧ Post z)) args s 0 0 (Aw ad)) σ 4 [(0, .ref (ad 51)), (1, .int (iI v1_1)), (2, .int (iI v2_1))] [] := by
    intro n1
    induction n1 using Nat.strongRecOn with
    | ind n1 ih1 =>
      intro v1_1 v2_1 h
      have h := hs1 n1 v1_1 v2_1 h
      refine x_iload_n (q := 5) (i := 2) C dX10_farOf_4 rfl 2 rfl rfl ?_
      refine x_aload_n (q := 6) (i := 0) C dX10_farOf_5 rfl 0 rfl rfl ?_
      refine x_virI (q := 9) C (Nat.le_of_ble_eq_true rfl) ly_51 rfl ck_RX10_81 vk_X10_gapMany (m_X10_gapMany l hI h) ⟨⟨rfl, rfl⟩, ⟨Nat.le_of_ble_eq_true rfl, Nat.le_of_ble_eq_true rfl⟩, ⟨Nat.zero_le _, Nat.zero_le _⟩⟩ dX10_farOf_6 rfl rfl (Nat.le_of_ble_eq_true rfl) rfl (fun z2 σ2 h => ?_)
      rw [h.1]
      have h := h.2
      obtain ⟨o3, h⟩ := h
      obtain ⟨o4, h⟩ := h
      refine x_icmp_ge (q := 12) (tgt := 47) C dX10_farOf_9 rfl ⟨o3, o4⟩ rfl (fun c5 => ?_) (fun c5 => ?_)
      · have h := h.1 c5
        refine x_iload_n (q := 48) (i := 1) C dX10_farOf_47 rfl 1 rfl rfl ?_
        exact x_iret C dX10_farOf_48 ⟨rfl, h⟩
      · have h := h.2 c5
        refine x_aload_n (q := 13) (i := 0) C dX10_farOf_12 rfl 0 rfl rfl ?_
        refine x_getR (q := 16) (c0 := 54) C (Nat.le_of_ble_eq_true rfl) ly_51 fk_RX10_16 rfl dX10_farOf_13 rfl ?_
        refine x_iconst (q := 17) (z := 5) C dX10_farOf_16 rfl rfl ?_
        refine x_iload_n (q := 18) (i := 2) C dX10_farOf_17 rfl 2 rfl rfl ?_
        refine x_iadd (q := 19) C dX10_farOf_18  rfl ?_
        obtain ⟨o6, h⟩ := h
        refine x_iald (q := 20) C (Nat.le_of_ble_eq_true rfl) ly_54 dX10_farOf_19 (ix o6 rfl) (Nat.le_of_ble_eq_true rfl) rfl ?_
        refine x_aload_n (q := 21) (i := 0) C dX10_farOf_20 rfl 0 rfl rfl ?_
        refine x_getR (q := 24) (c0 := 54) C (Nat.le_of_ble_eq_true rfl) ly_51 fk_RX10_16 rfl dX10_farOf_21 rfl ?_
        refine x_iload_n (q := 25) (i := 2) C dX10_farOf_24 rfl 2 rfl rfl ?_
        obtain ⟨o7, h⟩ := h
        refine x_iald (q := 26) C (Nat.le_of_ble_eq_true rfl) ly_54 dX10_farOf_25 (ix o7 rfl) (Nat.le_of_ble_eq_true rfl) rfl ?_
        refine x_isub (q := 27) C dX10_farOf_26  rfl ?_
        refine x_istore_n (q := 28) (i := 3) (lv' := [(0, .ref (ad 51)), (1, .int (iI v1_1)), (2, .int (iI v2_1)), (3, .int (iI ((σ 54 (5 + v2_1).toNat) - (σ 54 v2_1.toNat))))]) C dX10_farOf_27 rfl (Nat.le_of_ble_eq_true rfl) [1, 2, 3, 0] rfl rfl ?_
        refine x_iload_n (q := 29) (i := 1) C dX10_farOf_28 rfl 1 rfl rfl ?_
        refine x_iload_n (q := 30) (i := 3) C dX10_farOf_29 rfl 3 rfl rfl ?_
        obtain ⟨o8, h⟩ := h
        refine x_if_ge (q := 33) (tgt := 38) C dX10_farOf_30 rfl o8 rfl (fun c9 => ?_) (fun c9 => ?_)
        · have h := h.1 c9
          refine x_iload_n (q := 39) (i := 3) C dX10_farOf_38 rfl 3 rfl rfl ?_
          refine x_iadd (q := 40) C dX10_farOf_39  rfl ?_
          refine x_istore_n (q := 41) (i := 1) (lv' := [(0, .ref (ad 51)), (1, .int (iI (v1_1 + ((σ 54 (5 + v2_1).toNat) - (σ 54 v2_1.toNat))))), (2, .int (iI v2_1)), (3, .int (iI ((σ 54 (5 + v2_1).toNat) - (σ 54 v2_1.toNat))))]) C dX10_farOf_40 rfl (Nat.le_of_ble_eq_true rfl) [1, 0, 2, 3] rfl rfl ?_
          refine x_iinc (q := 44) (z' := v2_1 + 1) (lv' := [(0, .ref (ad 51)), (1, .int (iI (v1_1 + ((σ 54 (5 + v2_1).toNat) - (σ 54 v2_1.toNat))))), (2, .int (iI (v2_1 + 1))), (3, .int (iI ((σ 54 (5 + v2_1).toNat) - (σ 54 v2_1.toNat))))]) C dX10_farOf_41 2 rfl rfl (Nat.le_of_ble_eq_true rfl) [1, 2, 0, 3] rfl rfl ?_
          refine x_goto (tgt := 4) C dX10_farOf_44 rfl ?_
          obtain ⟨n10, hl11, h⟩ := h
          refine x_sub [0, 1, 2] rfl ?_
          exact ih1 n10 hl11 _ _ h
        · have h := h.2 c9
          refine x_iload_n (q := 34) (i := 3) C dX10_farOf_33 rfl 3 rfl rfl ?_
          refine x_ineg (q := 35) C dX10_farOf_34  rfl ?_
          refine x_goto (tgt := 39) C dX10_farOf_35 rfl ?_
          refine x_iadd (q := 40) C dX10_farOf_39  rfl ?_
          refine x_istore_n (q := 41) (i := 1) (lv' := [(0, .ref (ad 51)), (1, .int (iI (v1_1 + (-((σ 54 (5 + v2_1).toNat) - (σ 54 v2_1.toNat)))))), (2, .int (iI v2_1)), (3, .int (iI ((σ 54 (5 + v2_1).toNat) - (σ 54 v2_1.toNat))))]) C dX10_farOf_40 rfl (Nat.le_of_ble_eq_true rfl) [1, 0, 2, 3] rfl rfl ?_
          refine x_iinc (q := 44) (z' := v2_1 + 1) (lv' := [(0, .ref (ad 51)), (1, .int (iI (v1_1 + (-((σ 54 (5 + v2_1).toNat) - (σ 54 v2_1.toNat)))))), (2, .int (iI (v2_1 + 1))), (3, .int (iI ((σ 54 (5 + v2_1).toNat) - (σ 54 v2_1.toNat))))]) C dX10_farOf_41 2 rfl rfl (Nat.le_of_ble_eq_true rfl) [1, 2, 0, 3] rfl rfl ?_
          refine x_goto (tgt := 4) C dX10_farOf_44 rfl ?_
          obtain ⟨n12, hl13, h⟩ := h
          refine x_sub [0, 1, 2] rfl ?_
          exact ih1 n12 hl13 _ _ h
  exact L1 n01 0 0 h01
