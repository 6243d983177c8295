/-- what the cells hold at the start: the first row of marks is -9 -/
def σ0 : GS := fun k i => if k = 12 then (if i < 28 then -9 else 0) else 0
abbrev rmc_fill : Room := { frames := 0, cells := 0, slots := 0, locals := 0 }
set_option maxHeartbeats 4000000 in
theorem k_fill (l : Launch) {D : va_G} {cI cZ cG : ClassId} (r sz : Nat) : Met l yJ7_fill_53178 (wX yJ7_fill_53178 cJ7_fill_53178 4 none) rmc_fill (va_Pc [.ref r, .int (iI (-9))] (WdC D cI cZ cG [(r, .inl (cI, 28, .inl (fun _ => 0)))] sz)) (QC D (va_A [(r, .inl (cI, 28, .inl (fun _ => 0)))] sz) (fun _ => [(r, .inl (cI, 28, .inl (fun j => iI (if j < 28 then -9 else 0))))])) 0 0 (va_A [(r, .inl (cI, 28, .inl (fun _ => 0)))] sz) := by
  refine met_G (own := RJ7) (nm := false) (by decide +kernel) rfl (fun h => by cases h) (Nat.le_of_ble_eq_true rfl) ?_
  intro p e s m args below meth c A hAe hD0 C
  intro H locs ls hP hD hS hl
  have hl : lv_has ls 4 [(0, .ref r), (1, .int (iI (-9)))] := hl
  refine lv_iconst (v := iI 0) C.1 C.2.1 dJ7_fill_53178_0 rfl ?_
  refine lv_istore_n (lv' := [(2, .int (iI 0)), (0, .ref r), (1, .int (iI (-9)))]) C.1 C.2.1 dJ7_fill_53178_1 rfl hl (by decide) rfl (fun ls hl => ?_)
  refine lv_aload_n C.1 C.2.1 dJ7_fill_53178_2 rfl (lv_at hl 1 rfl) ?_
  refine va_alen C.1 C.2.1 C.2.2.2.2.2.1.1.1 hP 0 0 rfl rfl (v := iI 28) rfl dJ7_fill_53178_3 ?_
  refine lv_istore_n (lv' := [(3, .int (iI 28)), (2, .int (iI 0)), (0, .ref r), (1, .int (iI (-9)))]) C.1 C.2.1 dJ7_fill_53178_4 rfl hl (by decide) rfl (fun ls hl => ?_)
  have L : ∀ (n i : Nat), i + n = 28 → ∀ (H : Heap) (locs : List Loc) (ls : Array Slot), va_P D vwCl [(r, .inl (cI, 28, .inl (fun j => iI (if j < i then -9 else 0))))] H → va_D A [(r, .inl (cI, 28, .inl (fun j => iI (if j < i then -9 else 0))))] → va_S A s.heap H locs → lv_has ls 4 [(3, .int (iI 28)), (2, .int (iI (i : Int))), (0, .ref r), (1, .int (iI (-9)))] → W p l e rmc_fill s m args below meth c H locs 0 0 (MQ below (QC D A (fun _ => [(r, .inl (cI, 28, .inl (fun j => iI (if j < 28 then -9 else 0))))])) args s 0 0 A) (F0 m 5 ls []) := by
    intro n
    induction n with
    | zero =>
      intro i hi H locs ls hP hD hS hl
      have e : i = 28 := by omega
      subst e
      refine lv_iload_n C.1 C.2.1 dJ7_fill_53178_5 rfl (lv_at hl 1 rfl) ?_
      refine lv_iload_n C.1 C.2.1 dJ7_fill_53178_6 rfl (lv_at hl 0 rfl) ?_
      refine lv_icmp_ge (tgt := 20) C.1 C.2.1 dJ7_fill_53178_7 rfl (fun _ => ?_) (fun h => absurd (show iI 28 ≤ iI ((28 : Nat) : Int) by decide) h)
      exact g_ret C dJ7_fill_53178_20 (fun _ => 0) [0] (by decide) rfl H locs ls hP hD hS hl
    | succ n ih =>
      intro i hi H locs ls hP hD hS hl
      have hlt : i < 28 := by omega
      refine lv_iload_n C.1 C.2.1 dJ7_fill_53178_5 rfl (lv_at hl 1 rfl) ?_
      refine lv_iload_n C.1 C.2.1 dJ7_fill_53178_6 rfl (lv_at hl 0 rfl) ?_
      refine lv_icmp_ge (tgt := 20) C.1 C.2.1 dJ7_fill_53178_7 rfl (fun h => ?_) (fun _ => ?_)
      · rw [iI_le ⟨by decide, by omega⟩] at h
        omega
      · refine lv_aload_n C.1 C.2.1 dJ7_fill_53178_10 rfl (lv_at hl 2 rfl) ?_
        refine lv_iload_n C.1 C.2.1 dJ7_fill_53178_11 rfl (lv_at hl 1 rfl) ?_
        refine lv_iload_n C.1 C.2.1 dJ7_fill_53178_12 rfl (lv_at hl 3 rfl) ?_
        refine va_iast C.1 C.2.1 C.2.2.2.2.2.1.1.1 hP hD hS 0 0 rfl rfl (iI_in (a := (i : Int)) (n := 28) (by omega) (by omega) (by decide)) dJ7_fill_53178_13 (fun H1 locs1 hP1 hD1 hS1 => ?_)
        have ef : upd (fun j => iI (if j < i then -9 else 0)) (iI (i : Int)).toNatClampNeg (iI (-9)) = fun j => iI (if j < i + 1 then -9 else 0) := by
          funext j
          rw [iI_clamp (by omega) (by omega), Int.toNat_natCast]
          unfold upd
          by_cases e1 : j = i
          · subst e1
            rw [if_pos rfl, if_pos (by omega)]
          · rw [if_neg e1]
            by_cases e2 : j < i
            · show iI (if j < i then -9 else 0) = _
              rw [if_pos e2, if_pos (by omega)]
            · show iI (if j < i then -9 else 0) = _
              rw [if_neg e2, if_neg (by omega)]
        rw [ef] at hP1 hD1
        refine lv_iinc (v := iI ((i + 1 : Nat) : Int)) (lv' := [(2, .int (iI ((i + 1 : Nat) : Int))), (3, .int (iI 28)), (0, .ref r), (1, .int (iI (-9)))]) C.1 C.2.1 dJ7_fill_53178_14 hl (k := 1) rfl (by rw [show ((i + 1 : Nat) : Int) = (i : Int) + 1 by omega]; exact iI_add _ 1) (by decide) rfl (fun ls hl => ?_)
        refine lv_goto (tgt := 5) C.1 C.2.1 dJ7_fill_53178_17 rfl ?_
        exact ih (i + 1) (by omega) H1 locs1 ls hP1 hD1 hS1 (lv_sub hl [1, 0, 2, 3] rfl)
  exact L 28 0 rfl H locs ls hP hD hS hl
theorem ik_RL_9 : CallOK RL 9 yX9_init cX9_init 1 none 0 := ⟨t1_17, t1_1, t1_19, by decide +kernel⟩
theorem ik_RL_12 : CallOK RL 12 yX10_init cX10_init 1 none 0 := ⟨t3_199, t1_12, t3_201, by decide +kernel⟩
theorem in_11 : Cond.initialized yX3_init.cls ∈ TT ∧ Cond.code yX3_init cX3_init 1 none ∈ TT ∧ (yX3_init.cls ≠ "java/lang/invoke/MethodHandle" ∧ yX3_init.cls ≠ "java/lang/invoke/VarHandle" ∧ (parseMethodDescriptor yX3_init.desc).map (fun d => d.parameters.length) = some 0) := ⟨t1_2, t1_27, by decide +kernel⟩
theorem in_18 : Cond.initialized yX1_init.cls ∈ TT ∧ Cond.code yX1_init cX1_init 1 none ∈ TT ∧ (yX1_init.cls ≠ "java/lang/invoke/MethodHandle" ∧ yX1_init.cls ≠ "java/lang/invoke/VarHandle" ∧ (parseMethodDescriptor yX1_init.desc).map (fun d => d.parameters.length) = some 0) := ⟨t1_3, t1_41, by decide +kernel⟩
theorem ik_RX9_25 : CallOK RX9 25 yX2_init cX2_init 2 none 1 := ⟨t1_55, t1_4, t1_57, by decide +kernel⟩
theorem ik_RX9_37 : CallOK RX9 37 yX6_init cX6_init 2 none 1 := ⟨t1_68, t1_5, t1_70, by decide +kernel⟩
theorem ik_RX9_44 : CallOK RX9 44 yX7_init cX7_init 4 none 3 := ⟨t1_95, t1_7, t1_97, by decide +kernel⟩
theorem in_53 : Cond.initialized yX8_init.cls ∈ TT ∧ Cond.code yX8_init cX8_init 1 none ∈ TT ∧ (yX8_init.cls ≠ "java/lang/invoke/MethodHandle" ∧ yX8_init.cls ≠ "java/lang/invoke/VarHandle" ∧ (parseMethodDescriptor yX8_init.desc).map (fun d => d.parameters.length) = some 0) := ⟨t1_8, t1_113, by decide +kernel⟩
theorem in_60 : Cond.initialized yX0_init.cls ∈ TT ∧ Cond.code yX0_init cX0_init 1 none ∈ TT ∧ (yX0_init.cls ≠ "java/lang/invoke/MethodHandle" ∧ yX0_init.cls ≠ "java/lang/invoke/VarHandle" ∧ (parseMethodDescriptor yX0_init.desc).map (fun d => d.parameters.length) = some 0) := ⟨t1_9, t1_126, by decide +kernel⟩
theorem in_67 : Cond.initialized yX4_init.cls ∈ TT ∧ Cond.code yX4_init cX4_init 1 none ∈ TT ∧ (yX4_init.cls ≠ "java/lang/invoke/MethodHandle" ∧ yX4_init.cls ≠ "java/lang/invoke/VarHandle" ∧ (parseMethodDescriptor yX4_init.desc).map (fun d => d.parameters.length) = some 0) := ⟨t1_10, t1_140, by decide +kernel⟩
theorem in_74 : Cond.initialized yX5_init.cls ∈ TT ∧ Cond.code yX5_init cX5_init 1 none ∈ TT ∧ (yX5_init.cls ≠ "java/lang/invoke/MethodHandle" ∧ yX5_init.cls ≠ "java/lang/invoke/VarHandle" ∧ (parseMethodDescriptor yX5_init.desc).map (fun d => d.parameters.length) = some 0) := ⟨t1_11, t1_155, by decide +kernel⟩
abbrev W1_X3_init (cI cZ cG : ClassId) (h0 : Nat) : (Nat → Nat) → va_W := (fun u => [(h0, .inr (3, [.ref (u 0), .int 0])), ((u 0), .inl (cI, 64, .inl (fun _ => 0)))])
abbrev rmc_X3_init : Room := { frames := 1, cells := 1, slots := 64, locals := 12 }
set_option maxHeartbeats 8000000 in
set_option maxRecDepth 20000 in
theorem k_X3_init (l : Launch) {D : va_G} {cI cZ cG : ClassId} (h0 : Nat) (sz : Nat) : Met l yX3_init (wX yX3_init cX3_init 1 none) rmc_X3_init (va_Pc [.ref h0] (WdC D cI cZ cG [(h0, .inr (3, [.null, .int 0]))] sz)) (QC D (va_A [(h0, .inr (3, [.null, .int 0]))] sz) (W1_X3_init cI cZ cG h0)) 1 64 (va_A [(h0, .inr (3, [.null, .int 0]))] sz) := by
  refine met_G (own := RX3) (nm := true) (by decide +kernel) rfl (fun _ => rfl) (Nat.le_of_ble_eq_true rfl) ?_
  intro p e s m args below meth c A hAe hD0 C
  show G p l e rmc_X3_init s m args below meth c D A 1 (MQ below (QC D A (W1_X3_init cI cZ cG h0)) args s 1 64 A) 0 0 [(h0, .inr (3, [.null, .int 0]))] 0 [(0, .ref h0)] []
  refine g_aload_n (q := 1) (i := 0) C dX3_init_0 rfl 0 rfl rfl ?_
  refine g_obj (q := 4) C dX3_init_1 t1_28 ⟨Nat.le_of_ble_eq_true rfl, Nat.le_of_ble_eq_true rfl⟩ rfl ?_
  refine g_aload_n (q := 5) (i := 0) C dX3_init_4 rfl 0 rfl rfl ?_
  refine g_bipush (q := 7) (z := 64) C dX3_init_5 rfl rfl ?_
  refine g_newI (q := 9) (N := 64) C dX3_init_7 rfl (Nat.le_of_ble_eq_true rfl) ⟨Nat.le_of_ble_eq_true rfl, Nat.le_of_ble_eq_true rfl⟩ rfl (fun q1 => ?_)
  show G p l e rmc_X3_init s m args below meth c D A 1 (MQ below (QC D A (W1_X3_init cI cZ cG h0)) args s 1 64 A) 1 64 [(h0, .inr (3, [.null, .int 0])), (q1, .inl (cI, 64, .inl (fun _ => 0)))] 9 [(0, .ref h0)] [.ref q1, .ref h0]
  refine g_putR (q := 12) (k0 := 0) C dX3_init_9 rfl fk_RX3_9 tyX3 tyX3_ok nmX3 ⟨rfl, rfl⟩ (tyX3_ok 0 (Nat.le_of_ble_eq_true rfl)) ⟨rfl, rfl⟩ (Nat.le_of_ble_eq_true rfl) rfl ?_
  show G p l e rmc_X3_init s m args below meth c D A 1 (MQ below (QC D A (W1_X3_init cI cZ cG h0)) args s 1 64 A) 1 64 [(h0, .inr (3, [.ref q1, .int 0])), (q1, .inl (cI, 64, .inl (fun _ => 0)))] 12 [(0, .ref h0)] []
  exact g_ret C dX3_init_12 (fun k => ([q1] : List Nat).getD k 0) [0, 1] (by decide) rfl
abbrev W1_X1_init (cI cZ cG : ClassId) (h0 : Nat) : (Nat → Nat) → va_W := (fun u => [(h0, .inr (1, [.ref (u 0), .ref (u 1), .int 0])), ((u 0), .inl (cI, 6, .inl (fun _ => 0))), ((u 1), .inl (cI, 48, .inl (fun _ => 0)))])
abbrev rmc_X1_init : Room := { frames := 1, cells := 2, slots := 54, locals := 12 }
set_option maxHeartbeats 8000000 in
set_option maxRecDepth 20000 in
theorem k_X1_init (l : Launch) {D : va_G} {cI cZ cG : ClassId} (h0 : Nat) (sz : Nat) : Met l yX1_init (wX yX1_init cX1_init 1 none) rmc_X1_init (va_Pc [.ref h0] (WdC D cI cZ cG [(h0, .inr (1, [.null, .null, .int 0]))] sz)) (QC D (va_A [(h0, .inr (1, [.null, .null, .int 0]))] sz) (W1_X1_init cI cZ cG h0)) 2 54 (va_A [(h0, .inr (1, [.null, .null, .int 0]))] sz) := by
  refine met_G (own := RX1) (nm := true) (by decide +kernel) rfl (fun _ => rfl) (Nat.le_of_ble_eq_true rfl) ?_
  intro p e s m args below meth c A hAe hD0 C
  show G p l e rmc_X1_init s m args below meth c D A 1 (MQ below (QC D A (W1_X1_init cI cZ cG h0)) args s 2 54 A) 0 0 [(h0, .inr (1, [.null, .null, .int 0]))] 0 [(0, .ref h0)] []
  refine g_aload_n (q := 1) (i := 0) C dX1_init_0 rfl 0 rfl rfl ?_
  refine g_obj (q := 4) C dX1_init_1 t1_42 ⟨Nat.le_of_ble_eq_true rfl, Nat.le_of_ble_eq_true rfl⟩ rfl ?_
  refine g_aload_n (q := 5) (i := 0) C dX1_init_4 rfl 0 rfl rfl ?_
  refine g_bipush (q := 7) (z := 6) C dX1_init_5 rfl rfl ?_
  refine g_newI (q := 9) (N := 6) C dX1_init_7 rfl (Nat.le_of_ble_eq_true rfl) ⟨Nat.le_of_ble_eq_true rfl, Nat.le_of_ble_eq_true rfl⟩ rfl (fun q1 => ?_)
  show G p l e rmc_X1_init s m args below meth c D A 1 (MQ below (QC D A (W1_X1_init cI cZ cG h0)) args s 2 54 A) 1 6 [(h0, .inr (1, [.null, .null, .int 0])), (q1, .inl (cI, 6, .inl (fun _ => 0)))] 9 [(0, .ref h0)] [.ref q1, .ref h0]
  refine g_putR (q := 12) (k0 := 0) C dX1_init_9 rfl fk_RX1_9 tyX1 tyX1_ok nmX1 ⟨rfl, rfl⟩ (tyX1_ok 0 (Nat.le_of_ble_eq_true rfl)) ⟨rfl, rfl⟩ (Nat.le_of_ble_eq_true rfl) rfl ?_
  show G p l e rmc_X1_init s m args below meth c D A 1 (MQ below (QC D A (W1_X1_init cI cZ cG h0)) args s 2 54 A) 1 6 [(h0, .inr (1, [.ref q1, .null, .int 0])), (q1, .inl (cI, 6, .inl (fun _ => 0)))] 12 [(0, .ref h0)] []
  refine g_aload_n (q := 13) (i := 0) C dX1_init_12 rfl 0 rfl rfl ?_
  refine g_bipush (q := 15) (z := 48) C dX1_init_13 rfl rfl ?_
  refine g_newI (q := 17) (N := 48) C dX1_init_15 rfl (Nat.le_of_ble_eq_true rfl) ⟨Nat.le_of_ble_eq_true rfl, Nat.le_of_ble_eq_true rfl⟩ rfl (fun q2 => ?_)
  show G p l e rmc_X1_init s m args below meth c D A 1 (MQ below (QC D A (W1_X1_init cI cZ cG h0)) args s 2 54 A) 2 54 [(h0, .inr (1, [.ref q1, .null, .int 0])), (q1, .inl (cI, 6, .inl (fun _ => 0))), (q2, .inl (cI, 48, .inl (fun _ => 0)))] 17 [(0, .ref h0)] [.ref q2, .ref h0]
  refine g_putR (q := 20) (k0 := 0) C dX1_init_17 rfl fk_RX1_15 tyX1 tyX1_ok nmX1 ⟨rfl, rfl⟩ (tyX1_ok 1 (Nat.le_of_ble_eq_true rfl)) ⟨rfl, rfl⟩ (Nat.le_of_ble_eq_true rfl) rfl ?_
  show G p l e rmc_X1_init s m args below meth c D A 1 (MQ below (QC D A (W1_X1_init cI cZ cG h0)) args s 2 54 A) 2 54 [(h0, .inr (1, [.ref q1, .ref q2, .int 0])), (q1, .inl (cI, 6, .inl (fun _ => 0))), (q2, .inl (cI, 48, .inl (fun _ => 0)))] 20 [(0, .ref h0)] []
  exact g_ret C dX1_init_20 (fun k => ([q1, q2] : List Nat).getD k 0) [0, 1, 2] (by decide) rfl
abbrev W1_X2_init (cI cZ cG : ClassId) (h0 : Nat) (b0 : Nat) : (Nat → Nat) → va_W := (fun u => [(h0, .inr (2, [.ref b0, .ref (u 0)])), ((u 0), .inl (cI, 5, .inl (fun _ => 0)))])
abbrev rmc_X2_init : Room := { frames := 1, cells := 1, slots := 5, locals := 12 }
set_option maxHeartbeats 8000000 in
set_option maxRecDepth 20000 in
theorem k_X2_init (l : Launch) {D : va_G} {cI cZ cG : ClassId} (h0 : Nat) (b0 : Nat) (sz : Nat) : Met l yX2_init (wX yX2_init cX2_init 2 none) rmc_X2_init (va_Pc [.ref h0, .ref b0] (WdC D cI cZ cG [(h0, .inr (2, [.null, .null]))] sz)) (QC D (va_A [(h0, .inr (2, [.null, .null]))] sz) (W1_X2_init cI cZ cG h0 b0)) 1 5 (va_A [(h0, .inr (2, [.null, .null]))] sz) := by
  refine met_G (own := RX2) (nm := true) (by decide +kernel) rfl (fun _ => rfl) (Nat.le_of_ble_eq_true rfl) ?_
  intro p e s m args below meth c A hAe hD0 C
  show G p l e rmc_X2_init s m args below meth c D A 2 (MQ below (QC D A (W1_X2_init cI cZ cG h0 b0)) args s 1 5 A) 0 0 [(h0, .inr (2, [.null, .null]))] 0 [(0, .ref h0), (1, .ref b0)] []
  refine g_aload_n (q := 1) (i := 0) C dX2_init_0 rfl 0 rfl rfl ?_
  refine g_obj (q := 4) C dX2_init_1 t1_58 ⟨Nat.le_of_ble_eq_true rfl, Nat.le_of_ble_eq_true rfl⟩ rfl ?_
  refine g_aload_n (q := 5) (i := 0) C dX2_init_4 rfl 0 rfl rfl ?_
  refine g_iconst (q := 6) (z := 5) C dX2_init_5 rfl rfl ?_
  refine g_newI (q := 8) (N := 5) C dX2_init_6 rfl (Nat.le_of_ble_eq_true rfl) ⟨Nat.le_of_ble_eq_true rfl, Nat.le_of_ble_eq_true rfl⟩ rfl (fun q1 => ?_)
  show G p l e rmc_X2_init s m args below meth c D A 2 (MQ below (QC D A (W1_X2_init cI cZ cG h0 b0)) args s 1 5 A) 1 5 [(h0, .inr (2, [.null, .null])), (q1, .inl (cI, 5, .inl (fun _ => 0)))] 8 [(0, .ref h0), (1, .ref b0)] [.ref q1, .ref h0]
  refine g_putR (q := 11) (k0 := 0) C dX2_init_8 rfl fk_RX2_9 tyX2 tyX2_ok nmX2 ⟨rfl, rfl⟩ (tyX2_ok 1 (Nat.le_of_ble_eq_true rfl)) ⟨rfl, rfl⟩ (Nat.le_of_ble_eq_true rfl) rfl ?_
  show G p l e rmc_X2_init s m args below meth c D A 2 (MQ below (QC D A (W1_X2_init cI cZ cG h0 b0)) args s 1 5 A) 1 5 [(h0, .inr (2, [.null, .ref q1])), (q1, .inl (cI, 5, .inl (fun _ => 0)))] 11 [(0, .ref h0), (1, .ref b0)] []
  refine g_aload_n (q := 12) (i := 0) C dX2_init_11 rfl 0 rfl rfl ?_
  refine g_aload_n (q := 13) (i := 1) C dX2_init_12 rfl 1 rfl rfl ?_
  refine g_putR (q := 16) (k0 := 0) C dX2_init_13 rfl fk_RX2_15 tyX2 tyX2_ok nmX2 ⟨rfl, rfl⟩ (tyX2_ok 0 (Nat.le_of_ble_eq_true rfl)) ⟨rfl, rfl⟩ (Nat.le_of_ble_eq_true rfl) rfl ?_
  show G p l e rmc_X2_init s m args below meth c D A 2 (MQ below (QC D A (W1_X2_init cI cZ cG h0 b0)) args s 1 5 A) 1 5 [(h0, .inr (2, [.ref b0, .ref q1])), (q1, .inl (cI, 5, .inl (fun _ => 0)))] 16 [(0, .ref h0), (1, .ref b0)] []
  exact g_ret C dX2_init_16 (fun k => ([q1] : List Nat).getD k 0) [0, 1] (by decide) rfl
abbrev W1_X6_init (cI cZ cG : ClassId) (h0 : Nat) (b0 : Nat) : (Nat → Nat) → va_W := (fun u => [(h0, .inr (6, [.ref b0, .ref (u 0), .ref (u 1), .int 0, .int 0])), ((u 0), .inl (cG, 7, .inr (.inr (.inr (.inr (fun i => if i < 7 then some ((u 0) + 1 + i) else none)))))), ((u 0) + 1 + 0, .inl (cI, 28, .inl (fun j => iI (if j < 28 then -9 else 0)))), ((u 0) + 1 + 1, .inl (cI, 28, .inl (fun _ => 0))), ((u 0) + 1 + 2, .inl (cI, 28, .inl (fun _ => 0))), ((u 0) + 1 + 3, .inl (cI, 28, .inl (fun _ => 0))), ((u 0) + 1 + 4, .inl (cI, 28, .inl (fun _ => 0))), ((u 0) + 1 + 5, .inl (cI, 28, .inl (fun _ => 0))), ((u 0) + 1 + 6, .inl (cI, 28, .inl (fun _ => 0))), ((u 1), .inl (cI, 6, .inl (fun _ => 0)))])
abbrev rmc_X6_init : Room := { frames := 1, cells := 9, slots := 209, locals := 23 }
set_option maxHeartbeats 8000000 in
set_option maxRecDepth 20000 in
theorem k_X6_init (l : Launch) {D : va_G} {cI cZ cG : ClassId} (h0 : Nat) (b0 : Nat) (sz : Nat) : Met l yX6_init (wX yX6_init cX6_init 2 none) rmc_X6_init (va_Pc [.ref h0, .ref b0] (WdC D cI cZ cG [(h0, .inr (6, [.null, .null, .null, .int 0, .int 0]))] sz)) (QC D (va_A [(h0, .inr (6, [.null, .null, .null, .int 0, .int 0]))] sz) (W1_X6_init cI cZ cG h0 b0)) 9 209 (va_A [(h0, .inr (6, [.null, .null, .null, .int 0, .int 0]))] sz) := by
  refine met_G (own := RX6) (nm := true) (by decide +kernel) rfl (fun _ => rfl) (Nat.le_of_ble_eq_true rfl) ?_
  intro p e s m args below meth c A hAe hD0 C
  show G p l e rmc_X6_init s m args below meth c D A 2 (MQ below (QC D A (W1_X6_init cI cZ cG h0 b0)) args s 9 209 A) 0 0 [(h0, .inr (6, [.null, .null, .null, .int 0, .int 0]))] 0 [(0, .ref h0), (1, .ref b0)] []
  refine g_aload_n (q := 1) (i := 0) C dX6_init_0 rfl 0 rfl rfl ?_
  refine g_obj (q := 4) C dX6_init_1 t1_71 ⟨Nat.le_of_ble_eq_true rfl, Nat.le_of_ble_eq_true rfl⟩ rfl ?_
  refine g_aload_n (q := 5) (i := 0) C dX6_init_4 rfl 0 rfl rfl ?_
  refine g_bipush (q := 7) (z := 7) C dX6_init_5 rfl rfl ?_
  refine g_bipush (q := 9) (z := 28) C dX6_init_7 rfl rfl ?_
  refine g_mna (q := 13) (N := 7) (K := 28) C dX6_init_9 rfl rfl ⟨Nat.le_of_ble_eq_true rfl, Nat.le_of_ble_eq_true rfl⟩ t1_72 ⟨Nat.le_of_ble_eq_true rfl, Nat.le_of_ble_eq_true rfl⟩ rfl (fun q1 => ?_)
  show G p l e rmc_X6_init s m args below meth c D A 2 (MQ below (QC D A (W1_X6_init cI cZ cG h0 b0)) args s 9 209 A) 8 203 [(h0, .inr (6, [.null, .null, .null, .int 0, .int 0])), (q1, .inl (cG, 7, .inr (.inr (.inr (.inr (fun i => if i < 7 then some (q1 + 1 + i) else none)))))), (q1 + 1 + 0, .inl (cI, 28, .inl (fun _ => 0))), (q1 + 1 + 1, .inl (cI, 28, .inl (fun _ => 0))), (q1 + 1 + 2, .inl (cI, 28, .inl (fun _ => 0))), (q1 + 1 + 3, .inl (cI, 28, .inl (fun _ => 0))), (q1 + 1 + 4, .inl (cI, 28, .inl (fun _ => 0))), (q1 + 1 + 5, .inl (cI, 28, .inl (fun _ => 0))), (q1 + 1 + 6, .inl (cI, 28, .inl (fun _ => 0)))] 13 [(0, .ref h0), (1, .ref b0)] [.ref q1, .ref h0]
  refine g_putR (q := 16) (k0 := 0) C dX6_init_13 rfl fk_RX6_11 tyX6 tyX6_ok nmX6 ⟨rfl, rfl⟩ (tyX6_ok 1 (Nat.le_of_ble_eq_true rfl)) ⟨rfl, rfl⟩ (Nat.le_of_ble_eq_true rfl) rfl ?_
  show G p l e rmc_X6_init s m args below meth c D A 2 (MQ below (QC D A (W1_X6_init cI cZ cG h0 b0)) args s 9 209 A) 8 203 [(h0, .inr (6, [.null, .ref q1, .null, .int 0, .int 0])), (q1, .inl (cG, 7, .inr (.inr (.inr (.inr (fun i => if i < 7 then some (q1 + 1 + i) else none)))))), (q1 + 1 + 0, .inl (cI, 28, .inl (fun _ => 0))), (q1 + 1 + 1, .inl (cI, 28, .inl (fun _ => 0))), (q1 + 1 + 2, .inl (cI, 28, .inl (fun _ => 0))), (q1 + 1 + 3, .inl (cI, 28, .inl (fun _ => 0))), (q1 + 1 + 4, .inl (cI, 28, .inl (fun _ => 0))), (q1 + 1 + 5, .inl (cI, 28, .inl (fun _ => 0))), (q1 + 1 + 6, .inl (cI, 28, .inl (fun _ => 0)))] 16 [(0, .ref h0), (1, .ref b0)] []
  refine g_aload_n (q := 17) (i := 0) C dX6_init_16 rfl 0 rfl rfl ?_
  refine g_bipush (q := 19) (z := 6) C dX6_init_17 rfl rfl ?_
  refine g_newI (q := 21) (N := 6) C dX6_init_19 rfl (Nat.le_of_ble_eq_true rfl) ⟨Nat.le_of_ble_eq_true rfl, Nat.le_of_ble_eq_true rfl⟩ rfl (fun q2 => ?_)
  show G p l e rmc_X6_init s m args below meth c D A 2 (MQ below (QC D A (W1_X6_init cI cZ cG h0 b0)) args s 9 209 A) 9 209 [(h0, .inr (6, [.null, .ref q1, .null, .int 0, .int 0])), (q1, .inl (cG, 7, .inr (.inr (.inr (.inr (fun i => if i < 7 then some (q1 + 1 + i) else none)))))), (q1 + 1 + 0, .inl (cI, 28, .inl (fun _ => 0))), (q1 + 1 + 1, .inl (cI, 28, .inl (fun _ => 0))), (q1 + 1 + 2, .inl (cI, 28, .inl (fun _ => 0))), (q1 + 1 + 3, .inl (cI, 28, .inl (fun _ => 0))), (q1 + 1 + 4, .inl (cI, 28, .inl (fun _ => 0))), (q1 + 1 + 5, .inl (cI, 28, .inl (fun _ => 0))), (q1 + 1 + 6, .inl (cI, 28, .inl (fun _ => 0))), (q2, .inl (cI, 6, .inl (fun _ => 0)))] 21 [(0, .ref h0), (1, .ref b0)] [.ref q2, .ref h0]
  refine g_putR (q := 24) (k0 := 0) C dX6_init_21 rfl fk_RX6_16 tyX6 tyX6_ok nmX6 ⟨rfl, rfl⟩ (tyX6_ok 2 (Nat.le_of_ble_eq_true rfl)) ⟨rfl, rfl⟩ (Nat.le_of_ble_eq_true rfl) rfl ?_
  show G p l e rmc_X6_init s m args below meth c D A 2 (MQ below (QC D A (W1_X6_init cI cZ cG h0 b0)) args s 9 209 A) 9 209 [(h0, .inr (6, [.null, .ref q1, .ref q2, .int 0, .int 0])), (q1, .inl (cG, 7, .inr (.inr (.inr (.inr (fun i => if i < 7 then some (q1 + 1 + i) else none)))))), (q1 + 1 + 0, .inl (cI, 28, .inl (fun _ => 0))), (q1 + 1 + 1, .inl (cI, 28, .inl (fun _ => 0))), (q1 + 1 + 2, .inl (cI, 28, .inl (fun _ => 0))), (q1 + 1 + 3, .inl (cI, 28, .inl (fun _ => 0))), (q1 + 1 + 4, .inl (cI, 28, .inl (fun _ => 0))), (q1 + 1 + 5, .inl (cI, 28, .inl (fun _ => 0))), (q1 + 1 + 6, .inl (cI, 28, .inl (fun _ => 0))), (q2, .inl (cI, 6, .inl (fun _ => 0)))] 24 [(0, .ref h0), (1, .ref b0)] []
  refine g_aload_n (q := 25) (i := 0) C dX6_init_24 rfl 0 rfl rfl ?_
  refine g_aload_n (q := 26) (i := 1) C dX6_init_25 rfl 1 rfl rfl ?_
  refine g_putR (q := 29) (k0 := 0) C dX6_init_26 rfl fk_RX6_20 tyX6 tyX6_ok nmX6 ⟨rfl, rfl⟩ (tyX6_ok 0 (Nat.le_of_ble_eq_true rfl)) ⟨rfl, rfl⟩ (Nat.le_of_ble_eq_true rfl) rfl ?_
  show G p l e rmc_X6_init s m args below meth c D A 2 (MQ below (QC D A (W1_X6_init cI cZ cG h0 b0)) args s 9 209 A) 9 209 [(h0, .inr (6, [.ref b0, .ref q1, .ref q2, .int 0, .int 0])), (q1, .inl (cG, 7, .inr (.inr (.inr (.inr (fun i => if i < 7 then some (q1 + 1 + i) else none)))))), (q1 + 1 + 0, .inl (cI, 28, .inl (fun _ => 0))), (q1 + 1 + 1, .inl (cI, 28, .inl (fun _ => 0))), (q1 + 1 + 2, .inl (cI, 28, .inl (fun _ => 0))), (q1 + 1 + 3, .inl (cI, 28, .inl (fun _ => 0))), (q1 + 1 + 4, .inl (cI, 28, .inl (fun _ => 0))), (q1 + 1 + 5, .inl (cI, 28, .inl (fun _ => 0))), (q1 + 1 + 6, .inl (cI, 28, .inl (fun _ => 0))), (q2, .inl (cI, 6, .inl (fun _ => 0)))] 29 [(0, .ref h0), (1, .ref b0)] []
  refine g_aload_n (q := 30) (i := 0) C dX6_init_29 rfl 0 rfl rfl ?_
  refine g_getR (q := 33) (k0 := 0) C dX6_init_30 rfl fk_RX6_11 rfl rfl ?_
  refine g_iconst (q := 34) (z := 0) C dX6_init_33 rfl rfl ?_
  refine g_aald (q := 35) (k0 := 1) (v := q1 + 1 + 0) C dX6_init_34 rfl ⟨Nat.le_of_ble_eq_true rfl, Nat.le_of_ble_eq_true rfl⟩ rfl rfl ?_
  refine g_bipush (q := 37) (z := (-9)) C dX6_init_35 rfl rfl ?_
  refine g_fill (q := 40) (a := 0) (wr := [(h0, .inr (6, [.ref b0, .ref q1, .ref q2, .int 0, .int 0])), (q1, .inl (cG, 7, .inr (.inr (.inr (.inr (fun i => if i < 7 then some (q1 + 1 + i) else none)))))), (q1 + 1 + 1, .inl (cI, 28, .inl (fun _ => 0))), (q1 + 1 + 2, .inl (cI, 28, .inl (fun _ => 0))), (q1 + 1 + 3, .inl (cI, 28, .inl (fun _ => 0))), (q1 + 1 + 4, .inl (cI, 28, .inl (fun _ => 0))), (q1 + 1 + 5, .inl (cI, 28, .inl (fun _ => 0))), (q1 + 1 + 6, .inl (cI, 28, .inl (fun _ => 0))), (q2, .inl (cI, 6, .inl (fun _ => 0)))]) C dX6_init_37 ck_RX6_24 t1_75 (fun sz => k_fill l (q1 + 1 + 0) sz) [2] [0, 1, 3, 4, 5, 6, 7, 8, 9] rfl rfl (by decide) (by decide) (by decide) ⟨⟨rfl, rfl⟩, ⟨Nat.le_of_ble_eq_true rfl, Nat.le_of_ble_eq_true rfl⟩, ⟨Nat.le_of_ble_eq_true rfl, Nat.le_of_ble_eq_true rfl⟩⟩ rfl rfl (Nat.le_of_ble_eq_true rfl) rfl (fun u3 => ?_)
  show G p l e rmc_X6_init s m args below meth c D A 2 (MQ below (QC D A (W1_X6_init cI cZ cG h0 b0)) args s 9 209 A) 9 209 [(h0, .inr (6, [.ref b0, .ref q1, .ref q2, .int 0, .int 0])), (q1, .inl (cG, 7, .inr (.inr (.inr (.inr (fun i => if i < 7 then some (q1 + 1 + i) else none)))))), (q1 + 1 + 1, .inl (cI, 28, .inl (fun _ => 0))), (q1 + 1 + 2, .inl (cI, 28, .inl (fun _ => 0))), (q1 + 1 + 3, .inl (cI, 28, .inl (fun _ => 0))), (q1 + 1 + 4, .inl (cI, 28, .inl (fun _ => 0))), (q1 + 1 + 5, .inl (cI, 28, .inl (fun _ => 0))), (q1 + 1 + 6, .inl (cI, 28, .inl (fun _ => 0))), (q2, .inl (cI, 6, .inl (fun _ => 0))), (q1 + 1 + 0, .inl (cI, 28, .inl (fun j => iI (if j < 28 then -9 else 0))))] 40 [(0, .ref h0), (1, .ref b0)] []
  exact g_ret C dX6_init_40 (fun k => ([q1, q2] : List Nat).getD k 0) [0, 1, 9, 2, 3, 4, 5, 6, 7, 8] (by decide) rfl
abbrev W1_X7_init (cI cZ cG : ClassId) (h0 : Nat) (b0 : Nat) (b1 : Nat) (b2 : Nat) : (Nat → Nat) → va_W := (fun u => [(h0, .inr (7, [.ref b0, .ref b1, .ref b2]))])
abbrev rmc_X7_init : Room := { frames := 1, cells := 0, slots := 0, locals := 12 }
set_option maxHeartbeats 8000000 in
set_option maxRecDepth 20000 in
theorem k_X7_init (l : Launch) {D : va_G} {cI cZ cG : ClassId} (h0 : Nat) (b0 : Nat) (b1 : Nat) (b2 : Nat) (sz : Nat) : Met l yX7_init (wX yX7_init cX7_init 4 none) rmc_X7_init (va_Pc [.ref h0, .ref b0, .ref b1, .ref b2] (WdC D cI cZ cG [(h0, .inr (7, [.null, .null, .null]))] sz)) (QC D (va_A [(h0, .inr (7, [.null, .null, .null]))] sz) (W1_X7_init cI cZ cG h0 b0 b1 b2)) 0 0 (va_A [(h0, .inr (7, [.null, .null, .null]))] sz) := by
  refine met_G (own := RX7) (nm := true) (by decide +kernel) rfl (fun _ => rfl) (Nat.le_of_ble_eq_true rfl) ?_
  intro p e s m args below meth c A hAe hD0 C
  show G p l e rmc_X7_init s m args below meth c D A 4 (MQ below (QC D A (W1_X7_init cI cZ cG h0 b0 b1 b2)) args s 0 0 A) 0 0 [(h0, .inr (7, [.null, .null, .null]))] 0 [(0, .ref h0), (1, .ref b0), (2, .ref b1), (3, .ref b2)] []
  refine g_aload_n (q := 1) (i := 0) C dX7_init_0 rfl 0 rfl rfl ?_
  refine g_obj (q := 4) C dX7_init_1 t1_98 ⟨Nat.le_of_ble_eq_true rfl, Nat.le_of_ble_eq_true rfl⟩ rfl ?_
  refine g_aload_n (q := 5) (i := 0) C dX7_init_4 rfl 0 rfl rfl ?_
  refine g_aload_n (q := 6) (i := 1) C dX7_init_5 rfl 1 rfl rfl ?_
  refine g_putR (q := 9) (k0 := 0) C dX7_init_6 rfl fk_RX7_9 tyX7 tyX7_ok nmX7 ⟨rfl, rfl⟩ (tyX7_ok 0 (Nat.le_of_ble_eq_true rfl)) ⟨rfl, rfl⟩ (Nat.le_of_ble_eq_true rfl) rfl ?_
  show G p l e rmc_X7_init s m args below meth c D A 4 (MQ below (QC D A (W1_X7_init cI cZ cG h0 b0 b1 b2)) args s 0 0 A) 0 0 [(h0, .inr (7, [.ref b0, .null, .null]))] 9 [(0, .ref h0), (1, .ref b0), (2, .ref b1), (3, .ref b2)] []
  refine g_aload_n (q := 10) (i := 0) C dX7_init_9 rfl 0 rfl rfl ?_
  refine g_aload_n (q := 11) (i := 2) C dX7_init_10 rfl 2 rfl rfl ?_
  refine g_putR (q := 14) (k0 := 0) C dX7_init_11 rfl fk_RX7_15 tyX7 tyX7_ok nmX7 ⟨rfl, rfl⟩ (tyX7_ok 1 (Nat.le_of_ble_eq_true rfl)) ⟨rfl, rfl⟩ (Nat.le_of_ble_eq_true rfl) rfl ?_
  show G p l e rmc_X7_init s m args below meth c D A 4 (MQ below (QC D A (W1_X7_init cI cZ cG h0 b0 b1 b2)) args s 0 0 A) 0 0 [(h0, .inr (7, [.ref b0, .ref b1, .null]))] 14 [(0, .ref h0), (1, .ref b0), (2, .ref b1), (3, .ref b2)] []
  refine g_aload_n (q := 15) (i := 0) C dX7_init_14 rfl 0 rfl rfl ?_
  refine g_aload_n (q := 16) (i := 3) C dX7_init_15 rfl 3 rfl rfl ?_
  refine g_putR (q := 19) (k0 := 0) C dX7_init_16 rfl fk_RX7_19 tyX7 tyX7_ok nmX7 ⟨rfl, rfl⟩ (tyX7_ok 2 (Nat.le_of_ble_eq_true rfl)) ⟨rfl, rfl⟩ (Nat.le_of_ble_eq_true rfl) rfl ?_
  show G p l e rmc_X7_init s m args below meth c D A 4 (MQ below (QC D A (W1_X7_init cI cZ cG h0 b0 b1 b2)) args s 0 0 A) 0 0 [(h0, .inr (7, [.ref b0, .ref b1, .ref b2]))] 19 [(0, .ref h0), (1, .ref b0), (2, .ref b1), (3, .ref b2)] []
  exact g_ret C dX7_init_19 (fun k => ([] : List Nat).getD k 0) [0] (by decide) rfl
abbrev W1_X8_init (cI cZ cG : ClassId) (h0 : Nat) : (Nat → Nat) → va_W := (fun u => [(h0, .inr (8, [.ref (u 0), .int 0])), ((u 0), .inl (cI, 5, .inl (fun _ => 0)))])
abbrev rmc_X8_init : Room := { frames := 1, cells := 1, slots := 5, locals := 12 }
set_option maxHeartbeats 8000000 in
set_option maxRecDepth 20000 in
theorem k_X8_init (l : Launch) {D : va_G} {cI cZ cG : ClassId} (h0 : Nat) (sz : Nat) : Met l yX8_init (wX yX8_init cX8_init 1 none) rmc_X8_init (va_Pc [.ref h0] (WdC D cI cZ cG [(h0, .inr (8, [.null, .int 0]))] sz)) (QC D (va_A [(h0, .inr (8, [.null, .int 0]))] sz) (W1_X8_init cI cZ cG h0)) 1 5 (va_A [(h0, .inr (8, [.null, .int 0]))] sz) := by
  refine met_G (own := RX8) (nm := true) (by decide +kernel) rfl (fun _ => rfl) (Nat.le_of_ble_eq_true rfl) ?_
  intro p e s m args below meth c A hAe hD0 C
  show G p l e rmc_X8_init s m args below meth c D A 1 (MQ below (QC D A (W1_X8_init cI cZ cG h0)) args s 1 5 A) 0 0 [(h0, .inr (8, [.null, .int 0]))] 0 [(0, .ref h0)] []
  refine g_aload_n (q := 1) (i := 0) C dX8_init_0 rfl 0 rfl rfl ?_
  refine g_obj (q := 4) C dX8_init_1 t1_114 ⟨Nat.le_of_ble_eq_true rfl, Nat.le_of_ble_eq_true rfl⟩ rfl ?_
  refine g_aload_n (q := 5) (i := 0) C dX8_init_4 rfl 0 rfl rfl ?_
  refine g_iconst (q := 6) (z := 5) C dX8_init_5 rfl rfl ?_
  refine g_newI (q := 8) (N := 5) C dX8_init_6 rfl (Nat.le_of_ble_eq_true rfl) ⟨Nat.le_of_ble_eq_true rfl, Nat.le_of_ble_eq_true rfl⟩ rfl (fun q1 => ?_)
  show G p l e rmc_X8_init s m args below meth c D A 1 (MQ below (QC D A (W1_X8_init cI cZ cG h0)) args s 1 5 A) 1 5 [(h0, .inr (8, [.null, .int 0])), (q1, .inl (cI, 5, .inl (fun _ => 0)))] 8 [(0, .ref h0)] [.ref q1, .ref h0]
  refine g_putR (q := 11) (k0 := 0) C dX8_init_8 rfl fk_RX8_9 tyX8 tyX8_ok nmX8 ⟨rfl, rfl⟩ (tyX8_ok 0 (Nat.le_of_ble_eq_true rfl)) ⟨rfl, rfl⟩ (Nat.le_of_ble_eq_true rfl) rfl ?_
  show G p l e rmc_X8_init s m args below meth c D A 1 (MQ below (QC D A (W1_X8_init cI cZ cG h0)) args s 1 5 A) 1 5 [(h0, .inr (8, [.ref q1, .int 0])), (q1, .inl (cI, 5, .inl (fun _ => 0)))] 11 [(0, .ref h0)] []
  exact g_ret C dX8_init_11 (fun k => ([q1] : List Nat).getD k 0) [0, 1] (by decide) rfl
abbrev W1_X0_init (cI cZ cG : ClassId) (h0 : Nat) : (Nat → Nat) → va_W := (fun u => [(h0, .inr (0, [.ref (u 0), .int 0])), ((u 0), .inl (cG, 14, .inr (.inr (.inr (.inr (fun i => if i < 14 then some ((u 0) + 1 + i) else none)))))), ((u 0) + 1 + 0, .inl (cI, 5, .inl (fun _ => 0))), ((u 0) + 1 + 1, .inl (cI, 5, .inl (fun _ => 0))), ((u 0) + 1 + 2, .inl (cI, 5, .inl (fun _ => 0))), ((u 0) + 1 + 3, .inl (cI, 5, .inl (fun _ => 0))), ((u 0) + 1 + 4, .inl (cI, 5, .inl (fun _ => 0))), ((u 0) + 1 + 5, .inl (cI, 5, .inl (fun _ => 0))), ((u 0) + 1 + 6, .inl (cI, 5, .inl (fun _ => 0))), ((u 0) + 1 + 7, .inl (cI, 5, .inl (fun _ => 0))), ((u 0) + 1 + 8, .inl (cI, 5, .inl (fun _ => 0))), ((u 0) + 1 + 9, .inl (cI, 5, .inl (fun _ => 0))), ((u 0) + 1 + 10, .inl (cI, 5, .inl (fun _ => 0))), ((u 0) + 1 + 11, .inl (cI, 5, .inl (fun _ => 0))), ((u 0) + 1 + 12, .inl (cI, 5, .inl (fun _ => 0))), ((u 0) + 1 + 13, .inl (cI, 5, .inl (fun _ => 0)))])
abbrev rmc_X0_init : Room := { frames := 1, cells := 15, slots := 84, locals := 12 }
set_option maxHeartbeats 8000000 in
set_option maxRecDepth 20000 in
theorem k_X0_init (l : Launch) {D : va_G} {cI cZ cG : ClassId} (h0 : Nat) (sz : Nat) : Met l yX0_init (wX yX0_init cX0_init 1 none) rmc_X0_init (va_Pc [.ref h0] (WdC D cI cZ cG [(h0, .inr (0, [.null, .int 0]))] sz)) (QC D (va_A [(h0, .inr (0, [.null, .int 0]))] sz) (W1_X0_init cI cZ cG h0)) 15 84 (va_A [(h0, .inr (0, [.null, .int 0]))] sz) := by
  refine met_G (own := RX0) (nm := true) (by decide +kernel) rfl (fun _ => rfl) (Nat.le_of_ble_eq_true rfl) ?_
  intro p e s m args below meth c A hAe hD0 C
  show G p l e rmc_X0_init s m args below meth c D A 1 (MQ below (QC D A (W1_X0_init cI cZ cG h0)) args s 15 84 A) 0 0 [(h0, .inr (0, [.null, .int 0]))] 0 [(0, .ref h0)] []
  refine g_aload_n (q := 1) (i := 0) C dX0_init_0 rfl 0 rfl rfl ?_
  refine g_obj (q := 4) C dX0_init_1 t1_127 ⟨Nat.le_of_ble_eq_true rfl, Nat.le_of_ble_eq_true rfl⟩ rfl ?_
  refine g_aload_n (q := 5) (i := 0) C dX0_init_4 rfl 0 rfl rfl ?_
  refine g_bipush (q := 7) (z := 14) C dX0_init_5 rfl rfl ?_
  refine g_iconst (q := 8) (z := 5) C dX0_init_7 rfl rfl ?_
  refine g_mna (q := 12) (N := 14) (K := 5) C dX0_init_8 rfl rfl ⟨Nat.le_of_ble_eq_true rfl, Nat.le_of_ble_eq_true rfl⟩ t1_128 ⟨Nat.le_of_ble_eq_true rfl, Nat.le_of_ble_eq_true rfl⟩ rfl (fun q1 => ?_)
  show G p l e rmc_X0_init s m args below meth c D A 1 (MQ below (QC D A (W1_X0_init cI cZ cG h0)) args s 15 84 A) 15 84 [(h0, .inr (0, [.null, .int 0])), (q1, .inl (cG, 14, .inr (.inr (.inr (.inr (fun i => if i < 14 then some (q1 + 1 + i) else none)))))), (q1 + 1 + 0, .inl (cI, 5, .inl (fun _ => 0))), (q1 + 1 + 1, .inl (cI, 5, .inl (fun _ => 0))), (q1 + 1 + 2, .inl (cI, 5, .inl (fun _ => 0))), (q1 + 1 + 3, .inl (cI, 5, .inl (fun _ => 0))), (q1 + 1 + 4, .inl (cI, 5, .inl (fun _ => 0))), (q1 + 1 + 5, .inl (cI, 5, .inl (fun _ => 0))), (q1 + 1 + 6, .inl (cI, 5, .inl (fun _ => 0))), (q1 + 1 + 7, .inl (cI, 5, .inl (fun _ => 0))), (q1 + 1 + 8, .inl (cI, 5, .inl (fun _ => 0))), (q1 + 1 + 9, .inl (cI, 5, .inl (fun _ => 0))), (q1 + 1 + 10, .inl (cI, 5, .inl (fun _ => 0))), (q1 + 1 + 11, .inl (cI, 5, .inl (fun _ => 0))), (q1 + 1 + 12, .inl (cI, 5, .inl (fun _ => 0))), (q1 + 1 + 13, .inl (cI, 5, .inl (fun _ => 0)))] 12 [(0, .ref h0)] [.ref q1, .ref h0]
  refine g_putR (q := 15) (k0 := 0) C dX0_init_12 rfl fk_RX0_11 tyX0 tyX0_ok nmX0 ⟨rfl, rfl⟩ (tyX0_ok 0 (Nat.le_of_ble_eq_true rfl)) ⟨rfl, rfl⟩ (Nat.le_of_ble_eq_true rfl) rfl ?_
  show G p l e rmc_X0_init s m args below meth c D A 1 (MQ below (QC D A (W1_X0_init cI cZ cG h0)) args s 15 84 A) 15 84 [(h0, .inr (0, [.ref q1, .int 0])), (q1, .inl (cG, 14, .inr (.inr (.inr (.inr (fun i => if i < 14 then some (q1 + 1 + i) else none)))))), (q1 + 1 + 0, .inl (cI, 5, .inl (fun _ => 0))), (q1 + 1 + 1, .inl (cI, 5, .inl (fun _ => 0))), (q1 + 1 + 2, .inl (cI, 5, .inl (fun _ => 0))), (q1 + 1 + 3, .inl (cI, 5, .inl (fun _ => 0))), (q1 + 1 + 4, .inl (cI, 5, .inl (fun _ => 0))), (q1 + 1 + 5, .inl (cI, 5, .inl (fun _ => 0))), (q1 + 1 + 6, .inl (cI, 5, .inl (fun _ => 0))), (q1 + 1 + 7, .inl (cI, 5, .inl (fun _ => 0))), (q1 + 1 + 8, .inl (cI, 5, .inl (fun _ => 0))), (q1 + 1 + 9, .inl (cI, 5, .inl (fun _ => 0))), (q1 + 1 + 10, .inl (cI, 5, .inl (fun _ => 0))), (q1 + 1 + 11, .inl (cI, 5, .inl (fun _ => 0))), (q1 + 1 + 12, .inl (cI, 5, .inl (fun _ => 0))), (q1 + 1 + 13, .inl (cI, 5, .inl (fun _ => 0)))] 15 [(0, .ref h0)] []
  exact g_ret C dX0_init_15 (fun k => ([q1] : List Nat).getD k 0) [0, 1, 2, 3, 4, 5, 6, 7, 8, 9, 10, 11, 12, 13, 14, 15] (by decide) rfl
abbrev W1_X4_init (cI cZ cG : ClassId) (h0 : Nat) : (Nat → Nat) → va_W := (fun u => [(h0, .inr (4, [.ref (u 0), .ref (u 1)])), ((u 0), .inl (cG, 2, .inr (.inr (.inr (.inr (fun i => if i < 2 then some ((u 0) + 1 + i) else none)))))), ((u 0) + 1 + 0, .inl (cI, 5, .inl (fun _ => 0))), ((u 0) + 1 + 1, .inl (cI, 5, .inl (fun _ => 0))), ((u 1), .inl (cZ, 2, .inl (fun _ => 0)))])
abbrev rmc_X4_init : Room := { frames := 1, cells := 4, slots := 14, locals := 12 }
set_option maxHeartbeats 8000000 in
set_option maxRecDepth 20000 in
theorem k_X4_init (l : Launch) {D : va_G} {cI cZ cG : ClassId} (h0 : Nat) (sz : Nat) : Met l yX4_init (wX yX4_init cX4_init 1 none) rmc_X4_init (va_Pc [.ref h0] (WdC D cI cZ cG [(h0, .inr (4, [.null, .null]))] sz)) (QC D (va_A [(h0, .inr (4, [.null, .null]))] sz) (W1_X4_init cI cZ cG h0)) 4 14 (va_A [(h0, .inr (4, [.null, .null]))] sz) := by
  refine met_G (own := RX4) (nm := true) (by decide +kernel) rfl (fun _ => rfl) (Nat.le_of_ble_eq_true rfl) ?_
  intro p e s m args below meth c A hAe hD0 C
  show G p l e rmc_X4_init s m args below meth c D A 1 (MQ below (QC D A (W1_X4_init cI cZ cG h0)) args s 4 14 A) 0 0 [(h0, .inr (4, [.null, .null]))] 0 [(0, .ref h0)] []
  refine g_aload_n (q := 1) (i := 0) C dX4_init_0 rfl 0 rfl rfl ?_
  refine g_obj (q := 4) C dX4_init_1 t1_141 ⟨Nat.le_of_ble_eq_true rfl, Nat.le_of_ble_eq_true rfl⟩ rfl ?_
  refine g_aload_n (q := 5) (i := 0) C dX4_init_4 rfl 0 rfl rfl ?_
  refine g_iconst (q := 6) (z := 2) C dX4_init_5 rfl rfl ?_
  refine g_iconst (q := 7) (z := 5) C dX4_init_6 rfl rfl ?_
  refine g_mna (q := 11) (N := 2) (K := 5) C dX4_init_7 rfl rfl ⟨Nat.le_of_ble_eq_true rfl, Nat.le_of_ble_eq_true rfl⟩ t1_142 ⟨Nat.le_of_ble_eq_true rfl, Nat.le_of_ble_eq_true rfl⟩ rfl (fun q1 => ?_)
  show G p l e rmc_X4_init s m args below meth c D A 1 (MQ below (QC D A (W1_X4_init cI cZ cG h0)) args s 4 14 A) 3 12 [(h0, .inr (4, [.null, .null])), (q1, .inl (cG, 2, .inr (.inr (.inr (.inr (fun i => if i < 2 then some (q1 + 1 + i) else none)))))), (q1 + 1 + 0, .inl (cI, 5, .inl (fun _ => 0))), (q1 + 1 + 1, .inl (cI, 5, .inl (fun _ => 0)))] 11 [(0, .ref h0)] [.ref q1, .ref h0]
  refine g_putR (q := 14) (k0 := 0) C dX4_init_11 rfl fk_RX4_11 tyX4 tyX4_ok nmX4 ⟨rfl, rfl⟩ (tyX4_ok 0 (Nat.le_of_ble_eq_true rfl)) ⟨rfl, rfl⟩ (Nat.le_of_ble_eq_true rfl) rfl ?_
  show G p l e rmc_X4_init s m args below meth c D A 1 (MQ below (QC D A (W1_X4_init cI cZ cG h0)) args s 4 14 A) 3 12 [(h0, .inr (4, [.ref q1, .null])), (q1, .inl (cG, 2, .inr (.inr (.inr (.inr (fun i => if i < 2 then some (q1 + 1 + i) else none)))))), (q1 + 1 + 0, .inl (cI, 5, .inl (fun _ => 0))), (q1 + 1 + 1, .inl (cI, 5, .inl (fun _ => 0)))] 14 [(0, .ref h0)] []
  refine g_aload_n (q := 15) (i := 0) C dX4_init_14 rfl 0 rfl rfl ?_
  refine g_iconst (q := 16) (z := 2) C dX4_init_15 rfl rfl ?_
  refine g_newZ (q := 18) (N := 2) C dX4_init_16 rfl (Nat.le_of_ble_eq_true rfl) ⟨Nat.le_of_ble_eq_true rfl, Nat.le_of_ble_eq_true rfl⟩ rfl (fun q2 => ?_)
  show G p l e rmc_X4_init s m args below meth c D A 1 (MQ below (QC D A (W1_X4_init cI cZ cG h0)) args s 4 14 A) 4 14 [(h0, .inr (4, [.ref q1, .null])), (q1, .inl (cG, 2, .inr (.inr (.inr (.inr (fun i => if i < 2 then some (q1 + 1 + i) else none)))))), (q1 + 1 + 0, .inl (cI, 5, .inl (fun _ => 0))), (q1 + 1 + 1, .inl (cI, 5, .inl (fun _ => 0))), (q2, .inl (cZ, 2, .inl (fun _ => 0)))] 18 [(0, .ref h0)] [.ref q2, .ref h0]
  refine g_putR (q := 21) (k0 := 0) C dX4_init_18 rfl fk_RX4_16 tyX4 tyX4_ok nmX4 ⟨rfl, rfl⟩ (tyX4_ok 1 (Nat.le_of_ble_eq_true rfl)) ⟨rfl, rfl⟩ (Nat.le_of_ble_eq_true rfl) rfl ?_
  show G p l e rmc_X4_init s m args below meth c D A 1 (MQ below (QC D A (W1_X4_init cI cZ cG h0)) args s 4 14 A) 4 14 [(h0, .inr (4, [.ref q1, .ref q2])), (q1, .inl (cG, 2, .inr (.inr (.inr (.inr (fun i => if i < 2 then some (q1 + 1 + i) else none)))))), (q1 + 1 + 0, .inl (cI, 5, .inl (fun _ => 0))), (q1 + 1 + 1, .inl (cI, 5, .inl (fun _ => 0))), (q2, .inl (cZ, 2, .inl (fun _ => 0)))] 21 [(0, .ref h0)] []
  exact g_ret C dX4_init_21 (fun k => ([q1, q2] : List Nat).getD k 0) [0, 1, 2, 3, 4] (by decide) rfl
abbrev W1_X5_init (cI cZ cG : ClassId) (h0 : Nat) : (Nat → Nat) → va_W := (fun u => [(h0, .inr (5, [.ref (u 0), .ref (u 1), .ref (u 2), .int 0])), ((u 0), .inl (cI, 6, .inl (fun _ => 0))), ((u 1), .inl (cI, 6, .inl (fun _ => 0))), ((u 2), .inl (cZ, 6, .inl (fun _ => 0)))])
abbrev rmc_X5_init : Room := { frames := 1, cells := 3, slots := 18, locals := 12 }
set_option maxHeartbeats 8000000 in
set_option maxRecDepth 20000 in
theorem k_X5_init (l : Launch) {D : va_G} {cI cZ cG : ClassId} (h0 : Nat) (sz : Nat) : Met l yX5_init (wX yX5_init cX5_init 1 none) rmc_X5_init (va_Pc [.ref h0] (WdC D cI cZ cG [(h0, .inr (5, [.null, .null, .null, .int 0]))] sz)) (QC D (va_A [(h0, .inr (5, [.null, .null, .null, .int 0]))] sz) (W1_X5_init cI cZ cG h0)) 3 18 (va_A [(h0, .inr (5, [.null, .null, .null, .int 0]))] sz) := by
  refine met_G (own := RX5) (nm := true) (by decide +kernel) rfl (fun _ => rfl) (Nat.le_of_ble_eq_true rfl) ?_
  intro p e s m args below meth c A hAe hD0 C
  show G p l e rmc_X5_init s m args below meth c D A 1 (MQ below (QC D A (W1_X5_init cI cZ cG h0)) args s 3 18 A) 0 0 [(h0, .inr (5, [.null, .null, .null, .int 0]))] 0 [(0, .ref h0)] []
  refine g_aload_n (q := 1) (i := 0) C dX5_init_0 rfl 0 rfl rfl ?_
  refine g_obj (q := 4) C dX5_init_1 t1_156 ⟨Nat.le_of_ble_eq_true rfl, Nat.le_of_ble_eq_true rfl⟩ rfl ?_
  refine g_aload_n (q := 5) (i := 0) C dX5_init_4 rfl 0 rfl rfl ?_
  refine g_bipush (q := 7) (z := 6) C dX5_init_5 rfl rfl ?_
  refine g_newI (q := 9) (N := 6) C dX5_init_7 rfl (Nat.le_of_ble_eq_true rfl) ⟨Nat.le_of_ble_eq_true rfl, Nat.le_of_ble_eq_true rfl⟩ rfl (fun q1 => ?_)
  show G p l e rmc_X5_init s m args below meth c D A 1 (MQ below (QC D A (W1_X5_init cI cZ cG h0)) args s 3 18 A) 1 6 [(h0, .inr (5, [.null, .null, .null, .int 0])), (q1, .inl (cI, 6, .inl (fun _ => 0)))] 9 [(0, .ref h0)] [.ref q1, .ref h0]
  refine g_putR (q := 12) (k0 := 0) C dX5_init_9 rfl fk_RX5_9 tyX5 tyX5_ok nmX5 ⟨rfl, rfl⟩ (tyX5_ok 0 (Nat.le_of_ble_eq_true rfl)) ⟨rfl, rfl⟩ (Nat.le_of_ble_eq_true rfl) rfl ?_
  show G p l e rmc_X5_init s m args below meth c D A 1 (MQ below (QC D A (W1_X5_init cI cZ cG h0)) args s 3 18 A) 1 6 [(h0, .inr (5, [.ref q1, .null, .null, .int 0])), (q1, .inl (cI, 6, .inl (fun _ => 0)))] 12 [(0, .ref h0)] []
  refine g_aload_n (q := 13) (i := 0) C dX5_init_12 rfl 0 rfl rfl ?_
  refine g_bipush (q := 15) (z := 6) C dX5_init_13 rfl rfl ?_
  refine g_newI (q := 17) (N := 6) C dX5_init_15 rfl (Nat.le_of_ble_eq_true rfl) ⟨Nat.le_of_ble_eq_true rfl, Nat.le_of_ble_eq_true rfl⟩ rfl (fun q2 => ?_)
  show G p l e rmc_X5_init s m args below meth c D A 1 (MQ below (QC D A (W1_X5_init cI cZ cG h0)) args s 3 18 A) 2 12 [(h0, .inr (5, [.ref q1, .null, .null, .int 0])), (q1, .inl (cI, 6, .inl (fun _ => 0))), (q2, .inl (cI, 6, .inl (fun _ => 0)))] 17 [(0, .ref h0)] [.ref q2, .ref h0]
  refine g_putR (q := 20) (k0 := 0) C dX5_init_17 rfl fk_RX5_15 tyX5 tyX5_ok nmX5 ⟨rfl, rfl⟩ (tyX5_ok 1 (Nat.le_of_ble_eq_true rfl)) ⟨rfl, rfl⟩ (Nat.le_of_ble_eq_true rfl) rfl ?_
  show G p l e rmc_X5_init s m args below meth c D A 1 (MQ below (QC D A (W1_X5_init cI cZ cG h0)) args s 3 18 A) 2 12 [(h0, .inr (5, [.ref q1, .ref q2, .null, .int 0])), (q1, .inl (cI, 6, .inl (fun _ => 0))), (q2, .inl (cI, 6, .inl (fun _ => 0)))] 20 [(0, .ref h0)] []
  refine g_aload_n (q := 21) (i := 0) C dX5_init_20 rfl 0 rfl rfl ?_
  refine g_bipush (q := 23) (z := 6) C dX5_init_21 rfl rfl ?_
  refine g_newZ (q := 25) (N := 6) C dX5_init_23 rfl (Nat.le_of_ble_eq_true rfl) ⟨Nat.le_of_ble_eq_true rfl, Nat.le_of_ble_eq_true rfl⟩ rfl (fun q3 => ?_)
  show G p l e rmc_X5_init s m args below meth c D A 1 (MQ below (QC D A (W1_X5_init cI cZ cG h0)) args s 3 18 A) 3 18 [(h0, .inr (5, [.ref q1, .ref q2, .null, .int 0])), (q1, .inl (cI, 6, .inl (fun _ => 0))), (q2, .inl (cI, 6, .inl (fun _ => 0))), (q3, .inl (cZ, 6, .inl (fun _ => 0)))] 25 [(0, .ref h0)] [.ref q3, .ref h0]
  refine g_putR (q := 28) (k0 := 0) C dX5_init_25 rfl fk_RX5_18 tyX5 tyX5_ok nmX5 ⟨rfl, rfl⟩ (tyX5_ok 2 (Nat.le_of_ble_eq_true rfl)) ⟨rfl, rfl⟩ (Nat.le_of_ble_eq_true rfl) rfl ?_
  show G p l e rmc_X5_init s m args below meth c D A 1 (MQ below (QC D A (W1_X5_init cI cZ cG h0)) args s 3 18 A) 3 18 [(h0, .inr (5, [.ref q1, .ref q2, .ref q3, .int 0])), (q1, .inl (cI, 6, .inl (fun _ => 0))), (q2, .inl (cI, 6, .inl (fun _ => 0))), (q3, .inl (cZ, 6, .inl (fun _ => 0)))] 28 [(0, .ref h0)] []
  exact g_ret C dX5_init_28 (fun k => ([q1, q2, q3] : List Nat).getD k 0) [0, 1, 2, 3] (by decide) rfl
abbrev W1_X10_init (cI cZ cG : ClassId) (h0 : Nat) : (Nat → Nat) → va_W := (fun u => [(h0, .inr (10, [.int 0, .ref (u 52), .ref (u 53), .ref (u 54), .ref (u 55), .ref (u 56), .int 0, .ref (u 57), .int 0, .int 0, .ref (u 58), .int 0, .int 0, .ref (u 59), .int 0, .ref (u 60), .ref (u 61), .ref (u 62), .long 0, .ref (u 63), .ref (u 64)])), (u 52, .inl (cI, 6, .inl (fun _ => 0))), (u 53, .inl (cI, 48, .inl (fun _ => 0))), (u 54, .inl (cI, 10, .inl (fun _ => 0))), (u 55, .inl (cI, 6, .inl (fun _ => 0))), (u 56, .inl (cI, 48, .inl (fun _ => 0))), (u 57, .inl (cI, 64, .inl (fun _ => 0))), (u 58, .inl (cI, 5, .inl (fun _ => 0))), (u 59, .inl (cI, 70, .inl (fun _ => 0))), (u 60, .inl (cI, 6, .inl (fun _ => 0))), (u 61, .inl (cI, 6, .inl (fun _ => 0))), (u 62, .inl (cI, 6, .inl (fun _ => 0))), (u 63, .inl (cZ, 2, .inl (fun _ => 0))), (u 64, .inl (cI, 10, .inl (fun _ => 0)))])
abbrev rmc_X10_init : Room := { frames := 1, cells := 13, slots := 287, locals := 12 }
set_option maxHeartbeats 8000000 in
set_option maxRecDepth 20000 in
theorem k_X10_init (l : Launch) {D : va_G} {cI cZ cG : ClassId} (h0 : Nat) (sz : Nat) : Met l yX10_init (wX yX10_init cX10_init 1 none) rmc_X10_init (va_Pc [.ref h0] (WdC D cI cZ cG [(h0, .inr (10, [.int 0, .null, .null, .null, .null, .null, .int 0, .null, .int 0, .int 0, .null, .int 0, .int 0, .null, .int 0, .null, .null, .null, .long 0, .null, .null]))] sz)) (QC D (va_A [(h0, .inr (10, [.int 0, .null, .null, .null, .null, .null, .int 0, .null, .int 0, .int 0, .null, .int 0, .int 0, .null, .int 0, .null, .null, .null, .long 0, .null, .null]))] sz) (W1_X10_init cI cZ cG h0)) 13 287 (va_A [(h0, .inr (10, [.int 0, .null, .null, .null, .null, .null, .int 0, .null, .int 0, .int 0, .null, .int 0, .int 0, .null, .int 0, .null, .null, .null, .long 0, .null, .null]))] sz) := by
  refine met_G (own := RX10) (nm := true) (by decide +kernel) rfl (fun _ => rfl) (Nat.le_of_ble_eq_true rfl) ?_
  intro p e s m args below meth c A hAe hD0 C
  show G p l e rmc_X10_init s m args below meth c D A 1 (MQ below (QC D A (W1_X10_init cI cZ cG h0)) args s 13 287 A) 0 0 [(h0, .inr (10, [.int 0, .null, .null, .null, .null, .null, .int 0, .null, .int 0, .int 0, .null, .int 0, .int 0, .null, .int 0, .null, .null, .null, .long 0, .null, .null]))] 0 [(0, .ref h0)] []
  refine g_aload_n (q := 1) (i := 0) C dX10_init_0 rfl 0 rfl rfl ?_
  refine g_obj (q := 4) C dX10_init_1 t3_202 ⟨Nat.le_of_ble_eq_true rfl, Nat.le_of_ble_eq_true rfl⟩ rfl ?_
  refine g_aload_n (q := 5) (i := 0) C dX10_init_4 rfl 0 rfl rfl ?_
  refine g_bipush (q := 7) (z := 6) C dX10_init_5 rfl rfl ?_
  refine g_newI (q := 9) (N := 6) C dX10_init_7 rfl (Nat.le_of_ble_eq_true rfl) ⟨Nat.le_of_ble_eq_true rfl, Nat.le_of_ble_eq_true rfl⟩ rfl (fun q1 => ?_)
  show G p l e rmc_X10_init s m args below meth c D A 1 (MQ below (QC D A (W1_X10_init cI cZ cG h0)) args s 13 287 A) 1 6 [(h0, .inr (10, [.int 0, .null, .null, .null, .null, .null, .int 0, .null, .int 0, .int 0, .null, .int 0, .int 0, .null, .int 0, .null, .null, .null, .long 0, .null, .null])), (q1, .inl (cI, 6, .inl (fun _ => 0)))] 9 [(0, .ref h0)] [.ref q1, .ref h0]
  refine g_putR (q := 12) (k0 := 0) C dX10_init_9 rfl fk_RX10_7 tyX10 tyX10_ok nmX10 ⟨rfl, rfl⟩ (tyX10_ok 1 (Nat.le_of_ble_eq_true rfl)) ⟨rfl, rfl⟩ (Nat.le_of_ble_eq_true rfl) rfl ?_
  show G p l e rmc_X10_init s m args below meth c D A 1 (MQ below (QC D A (W1_X10_init cI cZ cG h0)) args s 13 287 A) 1 6 [(h0, .inr (10, [.int 0, .ref q1, .null, .null, .null, .null, .int 0, .null, .int 0, .int 0, .null, .int 0, .int 0, .null, .int 0, .null, .null, .null, .long 0, .null, .null])), (q1, .inl (cI, 6, .inl (fun _ => 0)))] 12 [(0, .ref h0)] []
  refine g_aload_n (q := 13) (i := 0) C dX10_init_12 rfl 0 rfl rfl ?_
  refine g_bipush (q := 15) (z := 48) C dX10_init_13 rfl rfl ?_
  refine g_newI (q := 17) (N := 48) C dX10_init_15 rfl (Nat.le_of_ble_eq_true rfl) ⟨Nat.le_of_ble_eq_true rfl, Nat.le_of_ble_eq_true rfl⟩ rfl (fun q2 => ?_)
  show G p l e rmc_X10_init s m args below meth c D A 1 (MQ below (QC D A (W1_X10_init cI cZ cG h0)) args s 13 287 A) 2 54 [(h0, .inr (10, [.int 0, .ref q1, .null, .null, .null, .null, .int 0, .null, .int 0, .int 0, .null, .int 0, .int 0, .null, .int 0, .null, .null, .null, .long 0, .null, .null])), (q1, .inl (cI, 6, .inl (fun _ => 0))), (q2, .inl (cI, 48, .inl (fun _ => 0)))] 17 [(0, .ref h0)] [.ref q2, .ref h0]
  refine g_putR (q := 20) (k0 := 0) C dX10_init_17 rfl fk_RX10_13 tyX10 tyX10_ok nmX10 ⟨rfl, rfl⟩ (tyX10_ok 2 (Nat.le_of_ble_eq_true rfl)) ⟨rfl, rfl⟩ (Nat.le_of_ble_eq_true rfl) rfl ?_
  show G p l e rmc_X10_init s m args below meth c D A 1 (MQ below (QC D A (W1_X10_init cI cZ cG h0)) args s 13 287 A) 2 54 [(h0, .inr (10, [.int 0, .ref q1, .ref q2, .null, .null, .null, .int 0, .null, .int 0, .int 0, .null, .int 0, .int 0, .null, .int 0, .null, .null, .null, .long 0, .null, .null])), (q1, .inl (cI, 6, .inl (fun _ => 0))), (q2, .inl (cI, 48, .inl (fun _ => 0)))] 20 [(0, .ref h0)] []
  refine g_aload_n (q := 21) (i := 0) C dX10_init_20 rfl 0 rfl rfl ?_
  refine g_bipush (q := 23) (z := 10) C dX10_init_21 rfl rfl ?_
  refine g_newI (q := 25) (N := 10) C dX10_init_23 rfl (Nat.le_of_ble_eq_true rfl) ⟨Nat.le_of_ble_eq_true rfl, Nat.le_of_ble_eq_true rfl⟩ rfl (fun q3 => ?_)
  show G p l e rmc_X10_init s m args below meth c D A 1 (MQ below (QC D A (W1_X10_init cI cZ cG h0)) args s 13 287 A) 3 64 [(h0, .inr (10, [.int 0, .ref q1, .ref q2, .null, .null, .null, .int 0, .null, .int 0, .int 0, .null, .int 0, .int 0, .null, .int 0, .null, .null, .null, .long 0, .null, .null])), (q1, .inl (cI, 6, .inl (fun _ => 0))), (q2, .inl (cI, 48, .inl (fun _ => 0))), (q3, .inl (cI, 10, .inl (fun _ => 0)))] 25 [(0, .ref h0)] [.ref q3, .ref h0]
  refine g_putR (q := 28) (k0 := 0) C dX10_init_25 rfl fk_RX10_16 tyX10 tyX10_ok nmX10 ⟨rfl, rfl⟩ (tyX10_ok 3 (Nat.le_of_ble_eq_true rfl)) ⟨rfl, rfl⟩ (Nat.le_of_ble_eq_true rfl) rfl ?_
  show G p l e rmc_X10_init s m args below meth c D A 1 (MQ below (QC D A (W1_X10_init cI cZ cG h0)) args s 13 287 A) 3 64 [(h0, .inr (10, [.int 0, .ref q1, .ref q2, .ref q3, .null, .null, .int 0, .null, .int 0, .int 0, .null, .int 0, .int 0, .null, .int 0, .null, .null, .null, .long 0, .null, .null])), (q1, .inl (cI, 6, .inl (fun _ => 0))), (q2, .inl (cI, 48, .inl (fun _ => 0))), (q3, .inl (cI, 10, .inl (fun _ => 0)))] 28 [(0, .ref h0)] []
  refine g_aload_n (q := 29) (i := 0) C dX10_init_28 rfl 0 rfl rfl ?_
  refine g_bipush (q := 31) (z := 6) C dX10_init_29 rfl rfl ?_
  refine g_newI (q := 33) (N := 6) C dX10_init_31 rfl (Nat.le_of_ble_eq_true rfl) ⟨Nat.le_of_ble_eq_true rfl, Nat.le_of_ble_eq_true rfl⟩ rfl (fun q4 => ?_)
  show G p l e rmc_X10_init s m args below meth c D A 1 (MQ below (QC D A (W1_X10_init cI cZ cG h0)) args s 13 287 A) 4 70 [(h0, .inr (10, [.int 0, .ref q1, .ref q2, .ref q3, .null, .null, .int 0, .null, .int 0, .int 0, .null, .int 0, .int 0, .null, .int 0, .null, .null, .null, .long 0, .null, .null])), (q1, .inl (cI, 6, .inl (fun _ => 0))), (q2, .inl (cI, 48, .inl (fun _ => 0))), (q3, .inl (cI, 10, .inl (fun _ => 0))), (q4, .inl (cI, 6, .inl (fun _ => 0)))] 33 [(0, .ref h0)] [.ref q4, .ref h0]
  refine g_putR (q := 36) (k0 := 0) C dX10_init_33 rfl fk_RX10_19 tyX10 tyX10_ok nmX10 ⟨rfl, rfl⟩ (tyX10_ok 4 (Nat.le_of_ble_eq_true rfl)) ⟨rfl, rfl⟩ (Nat.le_of_ble_eq_true rfl) rfl ?_
  show G p l e rmc_X10_init s m args below meth c D A 1 (MQ below (QC D A (W1_X10_init cI cZ cG h0)) args s 13 287 A) 4 70 [(h0, .inr (10, [.int 0, .ref q1, .ref q2, .ref q3, .ref q4, .null, .int 0, .null, .int 0, .int 0, .null, .int 0, .int 0, .null, .int 0, .null, .null, .null, .long 0, .null, .null])), (q1, .inl (cI, 6, .inl (fun _ => 0))), (q2, .inl (cI, 48, .inl (fun _ => 0))), (q3, .inl (cI, 10, .inl (fun _ => 0))), (q4, .inl (cI, 6, .inl (fun _ => 0)))] 36 [(0, .ref h0)] []
  refine g_aload_n (q := 37) (i := 0) C dX10_init_36 rfl 0 rfl rfl ?_
  refine g_bipush (q := 39) (z := 48) C dX10_init_37 rfl rfl ?_
  refine g_newI (q := 41) (N := 48) C dX10_init_39 rfl (Nat.le_of_ble_eq_true rfl) ⟨Nat.le_of_ble_eq_true rfl, Nat.le_of_ble_eq_true rfl⟩ rfl (fun q5 => ?_)
  show G p l e rmc_X10_init s m args below meth c D A 1 (MQ below (QC D A (W1_X10_init cI cZ cG h0)) args s 13 287 A) 5 118 [(h0, .inr (10, [.int 0, .ref q1, .ref q2, .ref q3, .ref q4, .null, .int 0, .null, .int 0, .int 0, .null, .int 0, .int 0, .null, .int 0, .null, .null, .null, .long 0, .null, .null])), (q1, .inl (cI, 6, .inl (fun _ => 0))), (q2, .inl (cI, 48, .inl (fun _ => 0))), (q3, .inl (cI, 10, .inl (fun _ => 0))), (q4, .inl (cI, 6, .inl (fun _ => 0))), (q5, .inl (cI, 48, .inl (fun _ => 0)))] 41 [(0, .ref h0)] [.ref q5, .ref h0]
  refine g_putR (q := 44) (k0 := 0) C dX10_init_41 rfl fk_RX10_22 tyX10 tyX10_ok nmX10 ⟨rfl, rfl⟩ (tyX10_ok 5 (Nat.le_of_ble_eq_true rfl)) ⟨rfl, rfl⟩ (Nat.le_of_ble_eq_true rfl) rfl ?_
  show G p l e rmc_X10_init s m args below meth c D A 1 (MQ below (QC D A (W1_X10_init cI cZ cG h0)) args s 13 287 A) 5 118 [(h0, .inr (10, [.int 0, .ref q1, .ref q2, .ref q3, .ref q4, .ref q5, .int 0, .null, .int 0, .int 0, .null, .int 0, .int 0, .null, .int 0, .null, .null, .null, .long 0, .null, .null])), (q1, .inl (cI, 6, .inl (fun _ => 0))), (q2, .inl (cI, 48, .inl (fun _ => 0))), (q3, .inl (cI, 10, .inl (fun _ => 0))), (q4, .inl (cI, 6, .inl (fun _ => 0))), (q5, .inl (cI, 48, .inl (fun _ => 0)))] 44 [(0, .ref h0)] []
  refine g_aload_n (q := 45) (i := 0) C dX10_init_44 rfl 0 rfl rfl ?_
  refine g_bipush (q := 47) (z := 64) C dX10_init_45 rfl rfl ?_
  refine g_newI (q := 49) (N := 64) C dX10_init_47 rfl (Nat.le_of_ble_eq_true rfl) ⟨Nat.le_of_ble_eq_true rfl, Nat.le_of_ble_eq_true rfl⟩ rfl (fun q6 => ?_)
  show G p l e rmc_X10_init s m args below meth c D A 1 (MQ below (QC D A (W1_X10_init cI cZ cG h0)) args s 13 287 A) 6 182 [(h0, .inr (10, [.int 0, .ref q1, .ref q2, .ref q3, .ref q4, .ref q5, .int 0, .null, .int 0, .int 0, .null, .int 0, .int 0, .null, .int 0, .null, .null, .null, .long 0, .null, .null])), (q1, .inl (cI, 6, .inl (fun _ => 0))), (q2, .inl (cI, 48, .inl (fun _ => 0))), (q3, .inl (cI, 10, .inl (fun _ => 0))), (q4, .inl (cI, 6, .inl (fun _ => 0))), (q5, .inl (cI, 48, .inl (fun _ => 0))), (q6, .inl (cI, 64, .inl (fun _ => 0)))] 49 [(0, .ref h0)] [.ref q6, .ref h0]
  refine g_putR (q := 52) (k0 := 0) C dX10_init_49 rfl fk_RX10_25 tyX10 tyX10_ok nmX10 ⟨rfl, rfl⟩ (tyX10_ok 7 (Nat.le_of_ble_eq_true rfl)) ⟨rfl, rfl⟩ (Nat.le_of_ble_eq_true rfl) rfl ?_
  show G p l e rmc_X10_init s m args below meth c D A 1 (MQ below (QC D A (W1_X10_init cI cZ cG h0)) args s 13 287 A) 6 182 [(h0, .inr (10, [.int 0, .ref q1, .ref q2, .ref q3, .ref q4, .ref q5, .int 0, .ref q6, .int 0, .int 0, .null, .int 0, .int 0, .null, .int 0, .null, .null, .null, .long 0, .null, .null])), (q1, .inl (cI, 6, .inl (fun _ => 0))), (q2, .inl (cI, 48, .inl (fun _ => 0))), (q3, .inl (cI, 10, .inl (fun _ => 0))), (q4, .inl (cI, 6, .inl (fun _ => 0))), (q5, .inl (cI, 48, .inl (fun _ => 0))), (q6, .inl (cI, 64, .inl (fun _ => 0)))] 52 [(0, .ref h0)] []
  refine g_aload_n (q := 53) (i := 0) C dX10_init_52 rfl 0 rfl rfl ?_
  refine g_iconst (q := 54) (z := 5) C dX10_init_53 rfl rfl ?_
  refine g_newI (q := 56) (N := 5) C dX10_init_54 rfl (Nat.le_of_ble_eq_true rfl) ⟨Nat.le_of_ble_eq_true rfl, Nat.le_of_ble_eq_true rfl⟩ rfl (fun q7 => ?_)
  show G p l e rmc_X10_init s m args below meth c D A 1 (MQ below (QC D A (W1_X10_init cI cZ cG h0)) args s 13 287 A) 7 187 [(h0, .inr (10, [.int 0, .ref q1, .ref q2, .ref q3, .ref q4, .ref q5, .int 0, .ref q6, .int 0, .int 0, .null, .int 0, .int 0, .null, .int 0, .null, .null, .null, .long 0, .null, .null])), (q1, .inl (cI, 6, .inl (fun _ => 0))), (q2, .inl (cI, 48, .inl (fun _ => 0))), (q3, .inl (cI, 10, .inl (fun _ => 0))), (q4, .inl (cI, 6, .inl (fun _ => 0))), (q5, .inl (cI, 48, .inl (fun _ => 0))), (q6, .inl (cI, 64, .inl (fun _ => 0))), (q7, .inl (cI, 5, .inl (fun _ => 0)))] 56 [(0, .ref h0)] [.ref q7, .ref h0]
  refine g_putR (q := 59) (k0 := 0) C dX10_init_56 rfl fk_RX10_28 tyX10 tyX10_ok nmX10 ⟨rfl, rfl⟩ (tyX10_ok 10 (Nat.le_of_ble_eq_true rfl)) ⟨rfl, rfl⟩ (Nat.le_of_ble_eq_true rfl) rfl ?_
  show G p l e rmc_X10_init s m args below meth c D A 1 (MQ below (QC D A (W1_X10_init cI cZ cG h0)) args s 13 287 A) 7 187 [(h0, .inr (10, [.int 0, .ref q1, .ref q2, .ref q3, .ref q4, .ref q5, .int 0, .ref q6, .int 0, .int 0, .ref q7, .int 0, .int 0, .null, .int 0, .null, .null, .null, .long 0, .null, .null])), (q1, .inl (cI, 6, .inl (fun _ => 0))), (q2, .inl (cI, 48, .inl (fun _ => 0))), (q3, .inl (cI, 10, .inl (fun _ => 0))), (q4, .inl (cI, 6, .inl (fun _ => 0))), (q5, .inl (cI, 48, .inl (fun _ => 0))), (q6, .inl (cI, 64, .inl (fun _ => 0))), (q7, .inl (cI, 5, .inl (fun _ => 0)))] 59 [(0, .ref h0)] []
  refine g_aload_n (q := 60) (i := 0) C dX10_init_59 rfl 0 rfl rfl ?_
  refine g_bipush (q := 62) (z := 70) C dX10_init_60 rfl rfl ?_
  refine g_newI (q := 64) (N := 70) C dX10_init_62 rfl (Nat.le_of_ble_eq_true rfl) ⟨Nat.le_of_ble_eq_true rfl, Nat.le_of_ble_eq_true rfl⟩ rfl (fun q8 => ?_)
  show G p l e rmc_X10_init s m args below meth c D A 1 (MQ below (QC D A (W1_X10_init cI cZ cG h0)) args s 13 287 A) 8 257 [(h0, .inr (10, [.int 0, .ref q1, .ref q2, .ref q3, .ref q4, .ref q5, .int 0, .ref q6, .int 0, .int 0, .ref q7, .int 0, .int 0, .null, .int 0, .null, .null, .null, .long 0, .null, .null])), (q1, .inl (cI, 6, .inl (fun _ => 0))), (q2, .inl (cI, 48, .inl (fun _ => 0))), (q3, .inl (cI, 10, .inl (fun _ => 0))), (q4, .inl (cI, 6, .inl (fun _ => 0))), (q5, .inl (cI, 48, .inl (fun _ => 0))), (q6, .inl (cI, 64, .inl (fun _ => 0))), (q7, .inl (cI, 5, .inl (fun _ => 0))), (q8, .inl (cI, 70, .inl (fun _ => 0)))] 64 [(0, .ref h0)] [.ref q8, .ref h0]
  refine g_putR (q := 67) (k0 := 0) C dX10_init_64 rfl fk_RX10_31 tyX10 tyX10_ok nmX10 ⟨rfl, rfl⟩ (tyX10_ok 13 (Nat.le_of_ble_eq_true rfl)) ⟨rfl, rfl⟩ (Nat.le_of_ble_eq_true rfl) rfl ?_
  show G p l e rmc_X10_init s m args below meth c D A 1 (MQ below (QC D A (W1_X10_init cI cZ cG h0)) args s 13 287 A) 8 257 [(h0, .inr (10, [.int 0, .ref q1, .ref q2, .ref q3, .ref q4, .ref q5, .int 0, .ref q6, .int 0, .int 0, .ref q7, .int 0, .int 0, .ref q8, .int 0, .null, .null, .null, .long 0, .null, .null])), (q1, .inl (cI, 6, .inl (fun _ => 0))), (q2, .inl (cI, 48, .inl (fun _ => 0))), (q3, .inl (cI, 10, .inl (fun _ => 0))), (q4, .inl (cI, 6, .inl (fun _ => 0))), (q5, .inl (cI, 48, .inl (fun _ => 0))), (q6, .inl (cI, 64, .inl (fun _ => 0))), (q7, .inl (cI, 5, .inl (fun _ => 0))), (q8, .inl (cI, 70, .inl (fun _ => 0)))] 67 [(0, .ref h0)] []
  refine g_aload_n (q := 68) (i := 0) C dX10_init_67 rfl 0 rfl rfl ?_
  refine g_bipush (q := 70) (z := 6) C dX10_init_68 rfl rfl ?_
  refine g_newI (q := 72) (N := 6) C dX10_init_70 rfl (Nat.le_of_ble_eq_true rfl) ⟨Nat.le_of_ble_eq_true rfl, Nat.le_of_ble_eq_true rfl⟩ rfl (fun q9 => ?_)
  show G p l e rmc_X10_init s m args below meth c D A 1 (MQ below (QC D A (W1_X10_init cI cZ cG h0)) args s 13 287 A) 9 263 [(h0, .inr (10, [.int 0, .ref q1, .ref q2, .ref q3, .ref q4, .ref q5, .int 0, .ref q6, .int 0, .int 0, .ref q7, .int 0, .int 0, .ref q8, .int 0, .null, .null, .null, .long 0, .null, .null])), (q1, .inl (cI, 6, .inl (fun _ => 0))), (q2, .inl (cI, 48, .inl (fun _ => 0))), (q3, .inl (cI, 10, .inl (fun _ => 0))), (q4, .inl (cI, 6, .inl (fun _ => 0))), (q5, .inl (cI, 48, .inl (fun _ => 0))), (q6, .inl (cI, 64, .inl (fun _ => 0))), (q7, .inl (cI, 5, .inl (fun _ => 0))), (q8, .inl (cI, 70, .inl (fun _ => 0))), (q9, .inl (cI, 6, .inl (fun _ => 0)))] 72 [(0, .ref h0)] [.ref q9, .ref h0]
  refine g_putR (q := 75) (k0 := 0) C dX10_init_72 rfl fk_RX10_34 tyX10 tyX10_ok nmX10 ⟨rfl, rfl⟩ (tyX10_ok 15 (Nat.le_of_ble_eq_true rfl)) ⟨rfl, rfl⟩ (Nat.le_of_ble_eq_true rfl) rfl ?_
  show G p l e rmc_X10_init s m args below meth c D A 1 (MQ below (QC D A (W1_X10_init cI cZ cG h0)) args s 13 287 A) 9 263 [(h0, .inr (10, [.int 0, .ref q1, .ref q2, .ref q3, .ref q4, .ref q5, .int 0, .ref q6, .int 0, .int 0, .ref q7, .int 0, .int 0, .ref q8, .int 0, .ref q9, .null, .null, .long 0, .null, .null])), (q1, .inl (cI, 6, .inl (fun _ => 0))), (q2, .inl (cI, 48, .inl (fun _ => 0))), (q3, .inl (cI, 10, .inl (fun _ => 0))), (q4, .inl (cI, 6, .inl (fun _ => 0))), (q5, .inl (cI, 48, .inl (fun _ => 0))), (q6, .inl (cI, 64, .inl (fun _ => 0))), (q7, .inl (cI, 5, .inl (fun _ => 0))), (q8, .inl (cI, 70, .inl (fun _ => 0))), (q9, .inl (cI, 6, .inl (fun _ => 0)))] 75 [(0, .ref h0)] []
  refine g_aload_n (q := 76) (i := 0) C dX10_init_75 rfl 0 rfl rfl ?_
  refine g_bipush (q := 78) (z := 6) C dX10_init_76 rfl rfl ?_
  refine g_newI (q := 80) (N := 6) C dX10_init_78 rfl (Nat.le_of_ble_eq_true rfl) ⟨Nat.le_of_ble_eq_true rfl, Nat.le_of_ble_eq_true rfl⟩ rfl (fun q10 => ?_)
  show G p l e rmc_X10_init s m args below meth c D A 1 (MQ below (QC D A (W1_X10_init cI cZ cG h0)) args s 13 287 A) 10 269 [(h0, .inr (10, [.int 0, .ref q1, .ref q2, .ref q3, .ref q4, .ref q5, .int 0, .ref q6, .int 0, .int 0, .ref q7, .int 0, .int 0, .ref q8, .int 0, .ref q9, .null, .null, .long 0, .null, .null])), (q1, .inl (cI, 6, .inl (fun _ => 0))), (q2, .inl (cI, 48, .inl (fun _ => 0))), (q3, .inl (cI, 10, .inl (fun _ => 0))), (q4, .inl (cI, 6, .inl (fun _ => 0))), (q5, .inl (cI, 48, .inl (fun _ => 0))), (q6, .inl (cI, 64, .inl (fun _ => 0))), (q7, .inl (cI, 5, .inl (fun _ => 0))), (q8, .inl (cI, 70, .inl (fun _ => 0))), (q9, .inl (cI, 6, .inl (fun _ => 0))), (q10, .inl (cI, 6, .inl (fun _ => 0)))] 80 [(0, .ref h0)] [.ref q10, .ref h0]
  refine g_putR (q := 83) (k0 := 0) C dX10_init_80 rfl fk_RX10_37 tyX10 tyX10_ok nmX10 ⟨rfl, rfl⟩ (tyX10_ok 16 (Nat.le_of_ble_eq_true rfl)) ⟨rfl, rfl⟩ (Nat.le_of_ble_eq_true rfl) rfl ?_
  show G p l e rmc_X10_init s m args below meth c D A 1 (MQ below (QC D A (W1_X10_init cI cZ cG h0)) args s 13 287 A) 10 269 [(h0, .inr (10, [.int 0, .ref q1, .ref q2, .ref q3, .ref q4, .ref q5, .int 0, .ref q6, .int 0, .int 0, .ref q7, .int 0, .int 0, .ref q8, .int 0, .ref q9, .ref q10, .null, .long 0, .null, .null])), (q1, .inl (cI, 6, .inl (fun _ => 0))), (q2, .inl (cI, 48, .inl (fun _ => 0))), (q3, .inl (cI, 10, .inl (fun _ => 0))), (q4, .inl (cI, 6, .inl (fun _ => 0))), (q5, .inl (cI, 48, .inl (fun _ => 0))), (q6, .inl (cI, 64, .inl (fun _ => 0))), (q7, .inl (cI, 5, .inl (fun _ => 0))), (q8, .inl (cI, 70, .inl (fun _ => 0))), (q9, .inl (cI, 6, .inl (fun _ => 0))), (q10, .inl (cI, 6, .inl (fun _ => 0)))] 83 [(0, .ref h0)] []
  refine g_aload_n (q := 84) (i := 0) C dX10_init_83 rfl 0 rfl rfl ?_
  refine g_bipush (q := 86) (z := 6) C dX10_init_84 rfl rfl ?_
  refine g_newI (q := 88) (N := 6) C dX10_init_86 rfl (Nat.le_of_ble_eq_true rfl) ⟨Nat.le_of_ble_eq_true rfl, Nat.le_of_ble_eq_true rfl⟩ rfl (fun q11 => ?_)
  show G p l e rmc_X10_init s m args below meth c D A 1 (MQ below (QC D A (W1_X10_init cI cZ cG h0)) args s 13 287 A) 11 275 [(h0, .inr (10, [.int 0, .ref q1, .ref q2, .ref q3, .ref q4, .ref q5, .int 0, .ref q6, .int 0, .int 0, .ref q7, .int 0, .int 0, .ref q8, .int 0, .ref q9, .ref q10, .null, .long 0, .null, .null])), (q1, .inl (cI, 6, .inl (fun _ => 0))), (q2, .inl (cI, 48, .inl (fun _ => 0))), (q3, .inl (cI, 10, .inl (fun _ => 0))), (q4, .inl (cI, 6, .inl (fun _ => 0))), (q5, .inl (cI, 48, .inl (fun _ => 0))), (q6, .inl (cI, 64, .inl (fun _ => 0))), (q7, .inl (cI, 5, .inl (fun _ => 0))), (q8, .inl (cI, 70, .inl (fun _ => 0))), (q9, .inl (cI, 6, .inl (fun _ => 0))), (q10, .inl (cI, 6, .inl (fun _ => 0))), (q11, .inl (cI, 6, .inl (fun _ => 0)))] 88 [(0, .ref h0)] [.ref q11, .ref h0]
  refine g_putR (q := 91) (k0 := 0) C dX10_init_88 rfl fk_RX10_40 tyX10 tyX10_ok nmX10 ⟨rfl, rfl⟩ (tyX10_ok 17 (Nat.le_of_ble_eq_true rfl)) ⟨rfl, rfl⟩ (Nat.le_of_ble_eq_true rfl) rfl ?_
  show G p l e rmc_X10_init s m args below meth c D A 1 (MQ below (QC D A (W1_X10_init cI cZ cG h0)) args s 13 287 A) 11 275 [(h0, .inr (10, [.int 0, .ref q1, .ref q2, .ref q3, .ref q4, .ref q5, .int 0, .ref q6, .int 0, .int 0, .ref q7, .int 0, .int 0, .ref q8, .int 0, .ref q9, .ref q10, .ref q11, .long 0, .null, .null])), (q1, .inl (cI, 6, .inl (fun _ => 0))), (q2, .inl (cI, 48, .inl (fun _ => 0))), (q3, .inl (cI, 10, .inl (fun _ => 0))), (q4, .inl (cI, 6, .inl (fun _ => 0))), (q5, .inl (cI, 48, .inl (fun _ => 0))), (q6, .inl (cI, 64, .inl (fun _ => 0))), (q7, .inl (cI, 5, .inl (fun _ => 0))), (q8, .inl (cI, 70, .inl (fun _ => 0))), (q9, .inl (cI, 6, .inl (fun _ => 0))), (q10, .inl (cI, 6, .inl (fun _ => 0))), (q11, .inl (cI, 6, .inl (fun _ => 0)))] 91 [(0, .ref h0)] []
  refine g_aload_n (q := 92) (i := 0) C dX10_init_91 rfl 0 rfl rfl ?_
  refine g_iconst (q := 93) (z := 2) C dX10_init_92 rfl rfl ?_
  refine g_newZ (q := 95) (N := 2) C dX10_init_93 rfl (Nat.le_of_ble_eq_true rfl) ⟨Nat.le_of_ble_eq_true rfl, Nat.le_of_ble_eq_true rfl⟩ rfl (fun q12 => ?_)
  show G p l e rmc_X10_init s m args below meth c D A 1 (MQ below (QC D A (W1_X10_init cI cZ cG h0)) args s 13 287 A) 12 277 [(h0, .inr (10, [.int 0, .ref q1, .ref q2, .ref q3, .ref q4, .ref q5, .int 0, .ref q6, .int 0, .int 0, .ref q7, .int 0, .int 0, .ref q8, .int 0, .ref q9, .ref q10, .ref q11, .long 0, .null, .null])), (q1, .inl (cI, 6, .inl (fun _ => 0))), (q2, .inl (cI, 48, .inl (fun _ => 0))), (q3, .inl (cI, 10, .inl (fun _ => 0))), (q4, .inl (cI, 6, .inl (fun _ => 0))), (q5, .inl (cI, 48, .inl (fun _ => 0))), (q6, .inl (cI, 64, .inl (fun _ => 0))), (q7, .inl (cI, 5, .inl (fun _ => 0))), (q8, .inl (cI, 70, .inl (fun _ => 0))), (q9, .inl (cI, 6, .inl (fun _ => 0))), (q10, .inl (cI, 6, .inl (fun _ => 0))), (q11, .inl (cI, 6, .inl (fun _ => 0))), (q12, .inl (cZ, 2, .inl (fun _ => 0)))] 95 [(0, .ref h0)] [.ref q12, .ref h0]
  refine g_putR (q := 98) (k0 := 0) C dX10_init_95 rfl fk_RX10_43 tyX10 tyX10_ok nmX10 ⟨rfl, rfl⟩ (tyX10_ok 19 (Nat.le_of_ble_eq_true rfl)) ⟨rfl, rfl⟩ (Nat.le_of_ble_eq_true rfl) rfl ?_
  show G p l e rmc_X10_init s m args below meth c D A 1 (MQ below (QC D A (W1_X10_init cI cZ cG h0)) args s 13 287 A) 12 277 [(h0, .inr (10, [.int 0, .ref q1, .ref q2, .ref q3, .ref q4, .ref q5, .int 0, .ref q6, .int 0, .int 0, .ref q7, .int 0, .int 0, .ref q8, .int 0, .ref q9, .ref q10, .ref q11, .long 0, .ref q12, .null])), (q1, .inl (cI, 6, .inl (fun _ => 0))), (q2, .inl (cI, 48, .inl (fun _ => 0))), (q3, .inl (cI, 10, .inl (fun _ => 0))), (q4, .inl (cI, 6, .inl (fun _ => 0))), (q5, .inl (cI, 48, .inl (fun _ => 0))), (q6, .inl (cI, 64, .inl (fun _ => 0))), (q7, .inl (cI, 5, .inl (fun _ => 0))), (q8, .inl (cI, 70, .inl (fun _ => 0))), (q9, .inl (cI, 6, .inl (fun _ => 0))), (q10, .inl (cI, 6, .inl (fun _ => 0))), (q11, .inl (cI, 6, .inl (fun _ => 0))), (q12, .inl (cZ, 2, .inl (fun _ => 0)))] 98 [(0, .ref h0)] []
  refine g_aload_n (q := 99) (i := 0) C dX10_init_98 rfl 0 rfl rfl ?_
  refine g_bipush (q := 101) (z := 10) C dX10_init_99 rfl rfl ?_
  refine g_newI (q := 103) (N := 10) C dX10_init_101 rfl (Nat.le_of_ble_eq_true rfl) ⟨Nat.le_of_ble_eq_true rfl, Nat.le_of_ble_eq_true rfl⟩ rfl (fun q13 => ?_)
  show G p l e rmc_X10_init s m args below meth c D A 1 (MQ below (QC D A (W1_X10_init cI cZ cG h0)) args s 13 287 A) 13 287 [(h0, .inr (10, [.int 0, .ref q1, .ref q2, .ref q3, .ref q4, .ref q5, .int 0, .ref q6, .int 0, .int 0, .ref q7, .int 0, .int 0, .ref q8, .int 0, .ref q9, .ref q10, .ref q11, .long 0, .ref q12, .null])), (q1, .inl (cI, 6, .inl (fun _ => 0))), (q2, .inl (cI, 48, .inl (fun _ => 0))), (q3, .inl (cI, 10, .inl (fun _ => 0))), (q4, .inl (cI, 6, .inl (fun _ => 0))), (q5, .inl (cI, 48, .inl (fun _ => 0))), (q6, .inl (cI, 64, .inl (fun _ => 0))), (q7, .inl (cI, 5, .inl (fun _ => 0))), (q8, .inl (cI, 70, .inl (fun _ => 0))), (q9, .inl (cI, 6, .inl (fun _ => 0))), (q10, .inl (cI, 6, .inl (fun _ => 0))), (q11, .inl (cI, 6, .inl (fun _ => 0))), (q12, .inl (cZ, 2, .inl (fun _ => 0))), (q13, .inl (cI, 10, .inl (fun _ => 0)))] 103 [(0, .ref h0)] [.ref q13, .ref h0]
  refine g_putR (q := 106) (k0 := 0) C dX10_init_103 rfl fk_RX10_47 tyX10 tyX10_ok nmX10 ⟨rfl, rfl⟩ (tyX10_ok 20 (Nat.le_of_ble_eq_true rfl)) ⟨rfl, rfl⟩ (Nat.le_of_ble_eq_true rfl) rfl ?_
  show G p l e rmc_X10_init s m args below meth c D A 1 (MQ below (QC D A (W1_X10_init cI cZ cG h0)) args s 13 287 A) 13 287 [(h0, .inr (10, [.int 0, .ref q1, .ref q2, .ref q3, .ref q4, .ref q5, .int 0, .ref q6, .int 0, .int 0, .ref q7, .int 0, .int 0, .ref q8, .int 0, .ref q9, .ref q10, .ref q11, .long 0, .ref q12, .ref q13])), (q1, .inl (cI, 6, .inl (fun _ => 0))), (q2, .inl (cI, 48, .inl (fun _ => 0))), (q3, .inl (cI, 10, .inl (fun _ => 0))), (q4, .inl (cI, 6, .inl (fun _ => 0))), (q5, .inl (cI, 48, .inl (fun _ => 0))), (q6, .inl (cI, 64, .inl (fun _ => 0))), (q7, .inl (cI, 5, .inl (fun _ => 0))), (q8, .inl (cI, 70, .inl (fun _ => 0))), (q9, .inl (cI, 6, .inl (fun _ => 0))), (q10, .inl (cI, 6, .inl (fun _ => 0))), (q11, .inl (cI, 6, .inl (fun _ => 0))), (q12, .inl (cZ, 2, .inl (fun _ => 0))), (q13, .inl (cI, 10, .inl (fun _ => 0)))] 106 [(0, .ref h0)] []
  exact g_ret C dX10_init_106 (fun k => ([h0, q1, q2, q3, q4, q5, q6, q7, q8, q9, q10, q11, q12, q13] : List Nat).getD (k - 51) 0) [0, 1, 2, 3, 4, 5, 6, 7, 8, 9, 10, 11, 12, 13] (by decide) rfl
