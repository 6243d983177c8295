abbrev rm_X10_in : Room := { frames := 0, cells := 0, slots := 0, locals := 0 }
def vc_X10_in (σ : GS) (a0 : Int) (a1 : Int) (a2 : Int) (Post : Int → Prop) : Prop :=
  (rg (lc a0 a1)) ∧
  (((lc a0 a1) < 0 →
    (Post 0)) ∧
  (¬ (lc a0 a1) < 0 →
    ((rg (lc a0 a2)) ∧
    (((0 : Int) < (lc a0 a2) →
      (Post 0)) ∧
    (¬ (0 : Int) < (lc a0 a2) →
      (Post 1))))))
set_option maxHeartbeats 4000000 in
set_option maxRecDepth 10000 in
theorem m_X10_in (l : Launch) {ad : Nat → Nat} {D : va_G} {cI cZ cG : ClassId} (hI : Ij ad) {σ : GS} {a0 : Int} {a1 : Int} {a2 : Int} {Post : Int → Prop} (h : vc_X10_in σ a0 a1 a2 Post) : Met l yX10_in (wX yX10_in cX10_in 6 (some .boolean)) rm_X10_in (va_Pc [.long (lI a0), .long (lI a1), .long (lI a2)] (Wd ad D cI cZ cG σ)) (QI ad D cI cZ cG (fun z u => u = σ ∧ Post z)) 0 0 (Aw ad) := by
  refine met_V (own := RX10) hI (by decide +kernel) rfl (Nat.le_of_ble_eq_true rfl) ?_
  intro p e s m args below meth c C
  unfold vc_X10_in at h
  show V p l e rm_X10_in s m args below meth c ad D cI cZ cG (Aw ad) 6 0 0 (MQ below (QI ad D cI cZ cG (fun z u => u = σ ∧ Post z)) args s 0 0 (Aw ad)) σ 0 [(0, .long (lI a0)), (2, .long (lI a1)), (4, .long (lI a2))] []
  refine x_lload_n (q := 1) (i := 0) C dX10_in_0 rfl 0 rfl rfl ?_
  refine x_lload_n (q := 2) (i := 2) C dX10_in_1 rfl 1 rfl rfl ?_
  refine x_lcmp (q := 3) C dX10_in_2  rfl ?_
  obtain ⟨o1, h⟩ := h
  refine x_if_lt (q := 6) (tgt := 17) C dX10_in_3 rfl o1 rfl (fun c2 => ?_) (fun c2 => ?_)
  · have h := h.1 c2
    refine x_iconst (q := 18) (z := 0) C dX10_in_17 rfl rfl ?_
    exact x_zret C dX10_in_18 (by decide) ⟨rfl, h⟩
  · have h := h.2 c2
    refine x_lload_n (q := 7) (i := 0) C dX10_in_6 rfl 0 rfl rfl ?_
    refine x_lload (q := 9) C dX10_in_7 2 rfl rfl ?_
    refine x_lcmp (q := 10) C dX10_in_9  rfl ?_
    obtain ⟨o3, h⟩ := h
    refine x_if_gt (q := 13) (tgt := 17) C dX10_in_10 rfl o3 rfl (fun c4 => ?_) (fun c4 => ?_)
    · have h := h.1 c4
      refine x_iconst (q := 18) (z := 0) C dX10_in_17 rfl rfl ?_
      exact x_zret C dX10_in_18 (by decide) ⟨rfl, h⟩
    · have h := h.2 c4
      refine x_iconst (q := 14) (z := 1) C dX10_in_13 rfl rfl ?_
      refine x_goto (tgt := 18) C dX10_in_14 rfl ?_
      exact x_zret C dX10_in_18 (by decide) ⟨rfl, h⟩
abbrev rm_X10_has : Room := { frames := 0, cells := 0, slots := 0, locals := 0 }
def vc_X10_has (σ : GS) (a0 : Int) (a1 : Int) (Post : Int → Prop) : Prop :=
  ((0 ≤ a0 ∧ a0 ≤ 2147483647) ∧ (0 ≤ a1 ∧ a1 < 32)) ∧
  ((rg ((a0 / 2 ^ a1.toNat) % 2)) ∧
  ((¬ ((a0 / 2 ^ a1.toNat) % 2) = 1 →
    (Post 0)) ∧
  (((a0 / 2 ^ a1.toNat) % 2) = 1 →
    (Post 1))))
set_option maxHeartbeats 4000000 in
set_option maxRecDepth 10000 in
theorem m_X10_has (l : Launch) {ad : Nat → Nat} {D : va_G} {cI cZ cG : ClassId} (hI : Ij ad) {σ : GS} {a0 : Int} {a1 : Int} {Post : Int → Prop} (h : vc_X10_has σ a0 a1 Post) : Met l yX10_has (wX yX10_has cX10_has 2 (some .boolean)) rm_X10_has (va_Pc [.int (iI a0), .int (iI a1)] (Wd ad D cI cZ cG σ)) (QI ad D cI cZ cG (fun z u => u = σ ∧ Post z)) 0 0 (Aw ad) := by
  refine met_V (own := RX10) hI (by decide +kernel) rfl (Nat.le_of_ble_eq_true rfl) ?_
  intro p e s m args below meth c C
  unfold vc_X10_has at h
  show V p l e rm_X10_has s m args below meth c ad D cI cZ cG (Aw ad) 2 0 0 (MQ below (QI ad D cI cZ cG (fun z u => u = σ ∧ Post z)) args s 0 0 (Aw ad)) σ 0 [(0, .int (iI a0)), (1, .int (iI a1))] []
  refine x_iload_n (q := 1) (i := 0) C dX10_has_0 rfl 0 rfl rfl ?_
  refine x_iload_n (q := 2) (i := 1) C dX10_has_1 rfl 1 rfl rfl ?_
  obtain ⟨o1, h⟩ := h
  refine x_ishr (q := 3) C dX10_has_2 o1 rfl ?_
  refine x_iconst (q := 4) (z := 1) C dX10_has_3 rfl rfl ?_
  refine x_iand1 (q := 5) C dX10_has_4  rfl ?_
  refine x_iconst (q := 6) (z := 1) C dX10_has_5 rfl rfl ?_
  obtain ⟨o2, h⟩ := h
  refine x_icmp_ne (q := 9) (tgt := 13) C dX10_has_6 rfl ⟨o2, by decide⟩ rfl (fun c3 => ?_) (fun c3 => ?_)
  · have h := h.1 c3
    refine x_iconst (q := 14) (z := 0) C dX10_has_13 rfl rfl ?_
    exact x_zret C dX10_has_14 (by decide) ⟨rfl, h⟩
  · have h := h.2 c3
    refine x_iconst (q := 10) (z := 1) C dX10_has_9 rfl rfl ?_
    refine x_goto (tgt := 14) C dX10_has_10 rfl ?_
    exact x_zret C dX10_has_14 (by decide) ⟨rfl, h⟩
abbrev rm_X10_ones : Room := { frames := 0, cells := 0, slots := 0, locals := 0 }
def vc_X10_ones (σ : GS) (a0 : Int) (Post : Int → Prop) : Prop :=
  ∃ I1 : Nat → Int → Int → Prop, (∃ n : Nat, I1 n 0 0) ∧ ∀ (n1 : Nat) (v1_1 : Int) (v2_1 : Int), I1 n1 v1_1 v2_1 →
  ((rg v2_1) ∧
      (((6 : Int) ≤ v2_1 →
        (Post v1_1)) ∧
      (¬ (6 : Int) ≤ v2_1 →
        (((0 ≤ a0 ∧ a0 ≤ 2147483647) ∧ (0 ≤ v2_1 ∧ v2_1 < 32)) ∧
        (∃ n' : Nat, n' < n1 ∧ I1 n' (v1_1 + ((a0 / 2 ^ v2_1.toNat) % 2)) (v2_1 + 1))))))
set_option maxHeartbeats 4000000 in
set_option maxRecDepth 10000 in
theorem m_X10_ones (l : Launch) {ad : Nat → Nat} {D : va_G} {cI cZ cG : ClassId} (hI : Ij ad) {σ : GS} {a0 : Int} {Post : Int → Prop} (h : vc_X10_ones σ a0 Post) : Met l yX10_ones (wX yX10_ones cX10_ones 3 (some .int)) rm_X10_ones (va_Pc [.int (iI a0)] (Wd ad D cI cZ cG σ)) (QI ad D cI cZ cG (fun z u => u = σ ∧ Post z)) 0 0 (Aw ad) := by
  refine met_V (own := RX10) hI (by decide +kernel) rfl (Nat.le_of_ble_eq_true rfl) ?_
  intro p e s m args below meth c C
  unfold vc_X10_ones at h
  show V p l e rm_X10_ones s m args below meth c ad D cI cZ cG (Aw ad) 3 0 0 (MQ below (QI ad D cI cZ cG (fun z u => u = σ ∧ Post z)) args s 0 0 (Aw ad)) σ 0 [(0, .int (iI a0))] []
  refine x_iconst (q := 1) (z := 0) C dX10_ones_0 rfl rfl ?_
  refine x_istore_n (q := 2) (i := 1) (lv' := [(0, .int (iI a0)), (1, .int (iI 0))]) C dX10_ones_1 rfl (Nat.le_of_ble_eq_true rfl) [1, 0] rfl rfl ?_
  refine x_iconst (q := 3) (z := 0) C dX10_ones_2 rfl rfl ?_
  refine x_istore_n (q := 4) (i := 2) (lv' := [(0, .int (iI a0)), (1, .int (iI 0)), (2, .int (iI 0))]) C dX10_ones_3 rfl (Nat.le_of_ble_eq_true rfl) [1, 2, 0] rfl rfl ?_
  obtain ⟨I1, ⟨n01, h01⟩, hs1⟩ := h
  have L1 : ∀ (n1 : Nat) (v1_1 : Int) (v2_1 : Int), I1 n1 v1_1 v2_1 → V p l e rm_X10_ones s m args below meth c ad D cI cZ cG (Aw ad) 3 0 0 (MQ below (QI ad D cI cZ cG (fun z u => u = σ ∧ Post z)) args s 0 0 (Aw ad)) σ 4 [(0, .int (iI a0)), (1, .int (iI v1_1)), (2, .int (iI v2_1))] [] := by
    intro n1
    induction n1 using Nat.strongRecOn with
    | ind n1 ih1 =>
      intro v1_1 v2_1 h
      have h := hs1 n1 v1_1 v2_1 h
      refine x_iload_n (q := 5) (i := 2) C dX10_ones_4 rfl 2 rfl rfl ?_
      refine x_bipush (q := 7) (z := 6) C dX10_ones_5 rfl rfl ?_
      obtain ⟨o2, h⟩ := h
      refine x_icmp_ge (q := 10) (tgt := 24) C dX10_ones_7 rfl ⟨o2, by decide⟩ rfl (fun c3 => ?_) (fun c3 => ?_)
      · have h := h.1 c3
        refine x_iload_n (q := 25) (i := 1) C dX10_ones_24 rfl 1 rfl rfl ?_
        exact x_iret C dX10_ones_25 ⟨rfl, h⟩
      · have h := h.2 c3
        refine x_iload_n (q := 11) (i := 1) C dX10_ones_10 rfl 1 rfl rfl ?_
        refine x_iload_n (q := 12) (i := 0) C dX10_ones_11 rfl 0 rfl rfl ?_
        refine x_iload_n (q := 13) (i := 2) C dX10_ones_12 rfl 2 rfl rfl ?_
        obtain ⟨o4, h⟩ := h
        refine x_ishr (q := 14) C dX10_ones_13 o4 rfl ?_
        refine x_iconst (q := 15) (z := 1) C dX10_ones_14 rfl rfl ?_
        refine x_iand1 (q := 16) C dX10_ones_15  rfl ?_
        refine x_iadd (q := 17) C dX10_ones_16  rfl ?_
        refine x_istore_n (q := 18) (i := 1) (lv' := [(0, .int (iI a0)), (1, .int (iI (v1_1 + ((a0 / 2 ^ v2_1.toNat) % 2)))), (2, .int (iI v2_1))]) C dX10_ones_17 rfl (Nat.le_of_ble_eq_true rfl) [1, 0, 2] rfl rfl ?_
        refine x_iinc (q := 21) (z' := v2_1 + 1) (lv' := [(0, .int (iI a0)), (1, .int (iI (v1_1 + ((a0 / 2 ^ v2_1.toNat) % 2)))), (2, .int (iI (v2_1 + 1)))]) C dX10_ones_18 2 rfl rfl (Nat.le_of_ble_eq_true rfl) [1, 2, 0] rfl rfl ?_
        refine x_goto (tgt := 4) C dX10_ones_21 rfl ?_
        obtain ⟨n5, hl6, h⟩ := h
        refine x_sub [0, 1, 2] rfl ?_
        exact ih1 n5 hl6 _ _ h
  exact L1 n01 0 0 h01
abbrev rm_X10_write : Room := { frames := 1, cells := 0, slots := 0, locals := 25 }
def vc_X10_write (σ : GS) (a0 : Int) (Post : Int → GS → Prop) : Prop :=
  (rg a0) ∧
  (vc_X10_in σ a0 0 255 (fun (z2 : Int) =>
    (rg z2) ∧
  ((¬ z2 = 0 →
    ((rg (σ 51 8)) ∧
    ((¬ (σ 51 8) = 64 →
      ((0 ≤ (σ 51 8) ∧ (σ 51 8) < 64) ∧
      (Post ((up2 (up2 σ 57 (σ 51 8).toNat a0) 51 8 (((up2 σ 57 (σ 51 8).toNat a0) 51 8) + 1)) 51 8) (up2 (up2 σ 57 (σ 51 8).toNat a0) 51 8 (((up2 σ 57 (σ 51 8).toNat a0) 51 8) + 1))))) ∧
    ((σ 51 8) = 64 →
      (Post (-4) σ))))) ∧
  (z2 = 0 →
    (Post (-2) σ)))))
set_option maxHeartbeats 4000000 in
set_option maxRecDepth 10000 in
theorem m_X10_write (l : Launch) {ad : Nat → Nat} {D : va_G} {cI cZ cG : ClassId} (hI : Ij ad) {σ : GS} {a0 : Int} {Post : Int → GS → Prop} (h : vc_X10_write σ a0 Post) : Met l yX10_write (wX yX10_write cX10_write 2 (some .int)) rm_X10_write (va_Pc [.ref (ad 51), .int (iI a0)] (Wd ad D cI cZ cG σ)) (QI ad D cI cZ cG Post) 0 0 (Aw ad) := by
  refine met_V (own := RX10) hI (by decide +kernel) rfl (Nat.le_of_ble_eq_true rfl) ?_
  intro p e s m args below meth c C
  unfold vc_X10_write at h
  show V p l e rm_X10_write s m args below meth c ad D cI cZ cG (Aw ad) 2 0 0 (MQ below (QI ad D cI cZ cG Post) args s 0 0 (Aw ad)) σ 0 [(0, .ref (ad 51)), (1, .int (iI a0))] []
  refine x_iload_n (q := 1) (i := 1) C dX10_write_0 rfl 1 rfl rfl ?_
  obtain ⟨o1, h⟩ := h
  refine x_i2l (q := 2) C dX10_write_1 o1 rfl ?_
  refine x_lconst (q := 3) (z := 0) C dX10_write_2 rfl rfl ?_
  refine x_ldc2 (q := 6) (z := 255) C dX10_write_3 t4_31 rfl rfl ?_
  refine x_staI (q := 9) C ck_RX10_52 t4_33 (m_X10_in l hI h) ⟨⟨rfl, rfl⟩, ⟨Nat.le_of_ble_eq_true rfl, Nat.le_of_ble_eq_true rfl⟩, ⟨Nat.zero_le _, Nat.zero_le _⟩⟩ dX10_write_6 rfl rfl (Nat.le_of_ble_eq_true rfl) rfl (fun z2 σ2 h => ?_)
  rw [h.1]
  have h := h.2
  obtain ⟨o3, h⟩ := h
  refine x_if_ne (q := 12) (tgt := 15) C dX10_write_9 rfl o3 rfl (fun c4 => ?_) (fun c4 => ?_)
  · have h := h.1 c4
    refine x_aload_n (q := 16) (i := 0) C dX10_write_15 rfl 0 rfl rfl ?_
    refine x_getI (q := 19) C (Nat.le_of_ble_eq_true rfl) ly_51 fk_RX10_56 rfl dX10_write_16 rfl ?_
    refine x_bipush (q := 21) (z := 64) C dX10_write_19 rfl rfl ?_
    obtain ⟨o5, h⟩ := h
    refine x_icmp_ne (q := 24) (tgt := 27) C dX10_write_21 rfl ⟨o5, by decide⟩ rfl (fun c6 => ?_) (fun c6 => ?_)
    · have h := h.1 c6
      refine x_aload_n (q := 28) (i := 0) C dX10_write_27 rfl 0 rfl rfl ?_
      refine x_getR (q := 31) (c0 := 57) C (Nat.le_of_ble_eq_true rfl) ly_51 fk_RX10_25 rfl dX10_write_28 rfl ?_
      refine x_aload_n (q := 32) (i := 0) C dX10_write_31 rfl 0 rfl rfl ?_
      refine x_getI (q := 35) C (Nat.le_of_ble_eq_true rfl) ly_51 fk_RX10_56 rfl dX10_write_32 rfl ?_
      refine x_iload_n (q := 36) (i := 1) C dX10_write_35 rfl 1 rfl rfl ?_
      obtain ⟨o7, h⟩ := h
      refine x_iast (q := 37) C (Nat.le_of_ble_eq_true rfl) ly_57 dX10_write_36 (ix o7 rfl) (Nat.le_of_ble_eq_true rfl)  rfl ?_
      refine x_aload_n (q := 38) (i := 0) C dX10_write_37 rfl 0 rfl rfl ?_
      refine x_dup (q := 39) C dX10_write_38 rfl rfl ?_
      refine x_getI (q := 42) C (Nat.le_of_ble_eq_true rfl) ly_51 fk_RX10_56 rfl dX10_write_39 rfl ?_
      refine x_iconst (q := 43) (z := 1) C dX10_write_42 rfl rfl ?_
      refine x_iadd (q := 44) C dX10_write_43  rfl ?_
      refine x_putI (q := 47) C (Nat.le_of_ble_eq_true rfl) ly_51 fk_RX10_56 rfl tyX10 tyX10_ok nmX10 rfl (tyX10_ok 8 (Nat.le_of_ble_eq_true rfl)) dX10_write_44 rfl ?_
      refine x_aload_n (q := 48) (i := 0) C dX10_write_47 rfl 0 rfl rfl ?_
      refine x_getI (q := 51) C (Nat.le_of_ble_eq_true rfl) ly_51 fk_RX10_56 rfl dX10_write_48 rfl ?_
      exact x_iret C dX10_write_51 h
    · have h := h.2 c6
      refine x_bipush (q := 26) (z := (-4)) C dX10_write_24 rfl rfl ?_
      exact x_iret C dX10_write_26 h
  · have h := h.2 c4
    refine x_bipush (q := 14) (z := (-2)) C dX10_write_12 rfl rfl ?_
    exact x_iret C dX10_write_14 h
abbrev rm_X10_wipe : Room := { frames := 0, cells := 0, slots := 0, locals := 0 }
def vc_X10_wipe (σ : GS)  (Post : Int → GS → Prop) : Prop :=
  Post (σ 51 8) (up2 σ 51 8 0)
set_option maxHeartbeats 4000000 in
set_option maxRecDepth 10000 in
theorem m_X10_wipe (l : Launch) {ad : Nat → Nat} {D : va_G} {cI cZ cG : ClassId} (hI : Ij ad) {σ : GS}  {Post : Int → GS → Prop} (h : vc_X10_wipe σ  Post) : Met l yX10_wipe (wX yX10_wipe cX10_wipe 2 (some .int)) rm_X10_wipe (va_Pc [.ref (ad 51)] (Wd ad D cI cZ cG σ)) (QI ad D cI cZ cG Post) 0 0 (Aw ad) := by
  refine met_V (own := RX10) hI (by decide +kernel) rfl (Nat.le_of_ble_eq_true rfl) ?_
  intro p e s m args below meth c C
  unfold vc_X10_wipe at h
  show V p l e rm_X10_wipe s m args below meth c ad D cI cZ cG (Aw ad) 2 0 0 (MQ below (QI ad D cI cZ cG Post) args s 0 0 (Aw ad)) σ 0 [(0, .ref (ad 51))] []
  refine x_aload_n (q := 1) (i := 0) C dX10_wipe_0 rfl 0 rfl rfl ?_
  refine x_getI (q := 4) C (Nat.le_of_ble_eq_true rfl) ly_51 fk_RX10_56 rfl dX10_wipe_1 rfl ?_
  refine x_istore_n (q := 5) (i := 1) (lv' := [(0, .ref (ad 51)), (1, .int (iI (σ 51 8)))]) C dX10_wipe_4 rfl (Nat.le_of_ble_eq_true rfl) [1, 0] rfl rfl ?_
  refine x_aload_n (q := 6) (i := 0) C dX10_wipe_5 rfl 0 rfl rfl ?_
  refine x_iconst (q := 7) (z := 0) C dX10_wipe_6 rfl rfl ?_
  refine x_putI (q := 10) C (Nat.le_of_ble_eq_true rfl) ly_51 fk_RX10_56 rfl tyX10 tyX10_ok nmX10 rfl (tyX10_ok 8 (Nat.le_of_ble_eq_true rfl)) dX10_wipe_7 rfl ?_
  refine x_iload_n (q := 11) (i := 1) C dX10_wipe_10 rfl 1 rfl rfl ?_
  exact x_iret C dX10_wipe_11 h
abbrev rm_X10_readText : Room := { frames := 1, cells := 0, slots := 0, locals := 25 }
def vc_X10_readText (σ : GS)  (Post : Int → GS → Prop) : Prop :=
  (rg ((up2 σ 51 6 0) 51 8)) ∧
  ((((up2 σ 51 6 0) 51 8) = 0 →
    (Post 0 (up2 σ 51 6 0))) ∧
  (¬ ((up2 σ 51 6 0) 51 8) = 0 →
    ((rg ((up2 σ 51 6 0) 57 (0 : Int).toNat)) ∧
    ((((up2 σ 51 6 0) 57 (0 : Int).toNat) = 70 →
      (∃ I5 : Nat → Int → GS → Prop, (∃ n : Nat, I5 n 1 (up2 σ 51 6 0)) ∧ ∀ (n5 : Nat) (v1_5 : Int) (σ5 : GS), I5 n5 v1_5 σ5 →
      ((rg v1_5) ∧
          ((rg (σ5 51 8)) ∧
          (((σ5 51 8) ≤ v1_5 →
            ((0 ≤ ((σ5 51 8) - 1) ∧ ((σ5 51 8) - 1) ≤ 2147483647) ∧
            ((rg (((σ5 51 8) - 1) % 10)) ∧
            ((¬ (((σ5 51 8) - 1) % 10) = 0 →
              (Post (σ5 51 8) σ5)) ∧
            ((((σ5 51 8) - 1) % 10) = 0 →
              (Post (-9) σ5)))))) ∧
          (¬ (σ5 51 8) ≤ v1_5 →
            ((0 ≤ (v1_5 - 1) ∧ (v1_5 - 1) ≤ 2147483647) ∧
            ((rg ((v1_5 - 1) % 10)) ∧
            ((¬ ((v1_5 - 1) % 10) = 0 →
              ((¬ ((v1_5 - 1) % 10) = 1 →
                ((0 ≤ v1_5 ∧ v1_5 < 64) ∧
                ((rg (σ5 57 v1_5.toNat)) ∧
                (vc_X10_in σ5 (σ5 57 v1_5.toNat) 97 122 (fun (z18 : Int) =>
                  (rg z18) ∧
                ((¬ z18 = 0 →
                  ((¬ ((v1_5 - 1) % 10) = 1 →
                    ((((v1_5 - 1) % 10) ≤ 1 →
                      ((¬ ((v1_5 - 1) % 10) = 9 →
                        (∃ n' : Nat, n' < n5 ∧ I5 n' (v1_5 + 1) (up2 σ5 51 6 ((σ5 51 6) + 0)))) ∧
                      (((v1_5 - 1) % 10) = 9 →
                        (∃ n' : Nat, n' < n5 ∧ I5 n' (v1_5 + 1) (up2 σ5 51 6 ((σ5 51 6) + 1)))))) ∧
                    (¬ ((v1_5 - 1) % 10) ≤ 1 →
                      ((0 ≤ (((8 * (σ5 51 6)) + ((v1_5 - 1) % 10)) - 2) ∧ (((8 * (σ5 51 6)) + ((v1_5 - 1) % 10)) - 2) < 48) ∧
                      ((¬ ((v1_5 - 1) % 10) = 9 →
                        (∃ n' : Nat, n' < n5 ∧ I5 n' (v1_5 + 1) (up2 (up2 σ5 56 (((8 * (σ5 51 6)) + ((v1_5 - 1) % 10)) - 2).toNat ((σ5 57 v1_5.toNat) - 97)) 51 6 (((up2 σ5 56 (((8 * (σ5 51 6)) + ((v1_5 - 1) % 10)) - 2).toNat ((σ5 57 v1_5.toNat) - 97)) 51 6) + 0)))) ∧
                      (((v1_5 - 1) % 10) = 9 →
                        (∃ n' : Nat, n' < n5 ∧ I5 n' (v1_5 + 1) (up2 (up2 σ5 56 (((8 * (σ5 51 6)) + ((v1_5 - 1) % 10)) - 2).toNat ((σ5 57 v1_5.toNat) - 97)) 51 6 (((up2 σ5 56 (((8 * (σ5 51 6)) + ((v1_5 - 1) % 10)) - 2).toNat ((σ5 57 v1_5.toNat) - 97)) 51 6) + 1))))))))) ∧
                  (((v1_5 - 1) % 10) = 1 →
                    ((0 ≤ (σ5 51 6) ∧ (σ5 51 6) < 6) ∧
                    ((¬ ((v1_5 - 1) % 10) = 9 →
                      (∃ n' : Nat, n' < n5 ∧ I5 n' (v1_5 + 1) (up2 (up2 σ5 55 (σ5 51 6).toNat ((σ5 57 v1_5.toNat) - 48)) 51 6 (((up2 σ5 55 (σ5 51 6).toNat ((σ5 57 v1_5.toNat) - 48)) 51 6) + 0)))) ∧
                    (((v1_5 - 1) % 10) = 9 →
                      (∃ n' : Nat, n' < n5 ∧ I5 n' (v1_5 + 1) (up2 (up2 σ5 55 (σ5 51 6).toNat ((σ5 57 v1_5.toNat) - 48)) 51 6 (((up2 σ5 55 (σ5 51 6).toNat ((σ5 57 v1_5.toNat) - 48)) 51 6) + 1))))))))) ∧
                (z18 = 0 →
                  (Post v1_5 σ5)))))))) ∧
              (((v1_5 - 1) % 10) = 1 →
                ((0 ≤ v1_5 ∧ v1_5 < 64) ∧
                ((rg (σ5 57 v1_5.toNat)) ∧
                (vc_X10_in σ5 (σ5 57 v1_5.toNat) 48 51 (fun (z42 : Int) =>
                  (rg z42) ∧
                ((¬ z42 = 0 →
                  ((¬ ((v1_5 - 1) % 10) = 1 →
                    ((((v1_5 - 1) % 10) ≤ 1 →
                      ((¬ ((v1_5 - 1) % 10) = 9 →
                        (∃ n' : Nat, n' < n5 ∧ I5 n' (v1_5 + 1) (up2 σ5 51 6 ((σ5 51 6) + 0)))) ∧
                      (((v1_5 - 1) % 10) = 9 →
                        (∃ n' : Nat, n' < n5 ∧ I5 n' (v1_5 + 1) (up2 σ5 51 6 ((σ5 51 6) + 1)))))) ∧
                    (¬ ((v1_5 - 1) % 10) ≤ 1 →
                      ((0 ≤ (((8 * (σ5 51 6)) + ((v1_5 - 1) % 10)) - 2) ∧ (((8 * (σ5 51 6)) + ((v1_5 - 1) % 10)) - 2) < 48) ∧
                      ((¬ ((v1_5 - 1) % 10) = 9 →
                        (∃ n' : Nat, n' < n5 ∧ I5 n' (v1_5 + 1) (up2 (up2 σ5 56 (((8 * (σ5 51 6)) + ((v1_5 - 1) % 10)) - 2).toNat ((σ5 57 v1_5.toNat) - 97)) 51 6 (((up2 σ5 56 (((8 * (σ5 51 6)) + ((v1_5 - 1) % 10)) - 2).toNat ((σ5 57 v1_5.toNat) - 97)) 51 6) + 0)))) ∧
                      (((v1_5 - 1) % 10) = 9 →
                        (∃ n' : Nat, n' < n5 ∧ I5 n' (v1_5 + 1) (up2 (up2 σ5 56 (((8 * (σ5 51 6)) + ((v1_5 - 1) % 10)) - 2).toNat ((σ5 57 v1_5.toNat) - 97)) 51 6 (((up2 σ5 56 (((8 * (σ5 51 6)) + ((v1_5 - 1) % 10)) - 2).toNat ((σ5 57 v1_5.toNat) - 97)) 51 6) + 1))))))))) ∧
                  (((v1_5 - 1) % 10) = 1 →
                    ((0 ≤ (σ5 51 6) ∧ (σ5 51 6) < 6) ∧
                    ((¬ ((v1_5 - 1) % 10) = 9 →
                      (∃ n' : Nat, n' < n5 ∧ I5 n' (v1_5 + 1) (up2 (up2 σ5 55 (σ5 51 6).toNat ((σ5 57 v1_5.toNat) - 48)) 51 6 (((up2 σ5 55 (σ5 51 6).toNat ((σ5 57 v1_5.toNat) - 48)) 51 6) + 0)))) ∧
                    (((v1_5 - 1) % 10) = 9 →
                      (∃ n' : Nat, n' < n5 ∧ I5 n' (v1_5 + 1) (up2 (up2 σ5 55 (σ5 51 6).toNat ((σ5 57 v1_5.toNat) - 48)) 51 6 (((up2 σ5 55 (σ5 51 6).toNat ((σ5 57 v1_5.toNat) - 48)) 51 6) + 1))))))))) ∧
                (z42 = 0 →
                  (Post v1_5 σ5)))))))))) ∧
            (((v1_5 - 1) % 10) = 0 →
              ((0 ≤ v1_5 ∧ v1_5 < 64) ∧
              ((rg (σ5 57 v1_5.toNat)) ∧
              ((¬ (σ5 57 v1_5.toNat) = 66 →
                ((¬ (0 : Int) = 0 →
                  ((¬ ((v1_5 - 1) % 10) = 1 →
                    ((((v1_5 - 1) % 10) ≤ 1 →
                      ((¬ ((v1_5 - 1) % 10) = 9 →
                        (∃ n' : Nat, n' < n5 ∧ I5 n' (v1_5 + 1) (up2 σ5 51 6 ((σ5 51 6) + 0)))) ∧
                      (((v1_5 - 1) % 10) = 9 →
                        (∃ n' : Nat, n' < n5 ∧ I5 n' (v1_5 + 1) (up2 σ5 51 6 ((σ5 51 6) + 1)))))) ∧
                    (¬ ((v1_5 - 1) % 10) ≤ 1 →
                      ((0 ≤ (((8 * (σ5 51 6)) + ((v1_5 - 1) % 10)) - 2) ∧ (((8 * (σ5 51 6)) + ((v1_5 - 1) % 10)) - 2) < 48) ∧
                      ((¬ ((v1_5 - 1) % 10) = 9 →
                        (∃ n' : Nat, n' < n5 ∧ I5 n' (v1_5 + 1) (up2 (up2 σ5 56 (((8 * (σ5 51 6)) + ((v1_5 - 1) % 10)) - 2).toNat ((σ5 57 v1_5.toNat) - 97)) 51 6 (((up2 σ5 56 (((8 * (σ5 51 6)) + ((v1_5 - 1) % 10)) - 2).toNat ((σ5 57 v1_5.toNat) - 97)) 51 6) + 0)))) ∧
                      (((v1_5 - 1) % 10) = 9 →
                        (∃ n' : Nat, n' < n5 ∧ I5 n' (v1_5 + 1) (up2 (up2 σ5 56 (((8 * (σ5 51 6)) + ((v1_5 - 1) % 10)) - 2).toNat ((σ5 57 v1_5.toNat) - 97)) 51 6 (((up2 σ5 56 (((8 * (σ5 51 6)) + ((v1_5 - 1) % 10)) - 2).toNat ((σ5 57 v1_5.toNat) - 97)) 51 6) + 1))))))))) ∧
                  (((v1_5 - 1) % 10) = 1 →
                    ((0 ≤ (σ5 51 6) ∧ (σ5 51 6) < 6) ∧
                    ((¬ ((v1_5 - 1) % 10) = 9 →
                      (∃ n' : Nat, n' < n5 ∧ I5 n' (v1_5 + 1) (up2 (up2 σ5 55 (σ5 51 6).toNat ((σ5 57 v1_5.toNat) - 48)) 51 6 (((up2 σ5 55 (σ5 51 6).toNat ((σ5 57 v1_5.toNat) - 48)) 51 6) + 0)))) ∧
                    (((v1_5 - 1) % 10) = 9 →
                      (∃ n' : Nat, n' < n5 ∧ I5 n' (v1_5 + 1) (up2 (up2 σ5 55 (σ5 51 6).toNat ((σ5 57 v1_5.toNat) - 48)) 51 6 (((up2 σ5 55 (σ5 51 6).toNat ((σ5 57 v1_5.toNat) - 48)) 51 6) + 1))))))))) ∧
                ((0 : Int) = 0 →
                  (Post v1_5 σ5)))) ∧
              ((σ5 57 v1_5.toNat) = 66 →
                ((rg (σ5 51 6)) ∧
                (((6 : Int) ≤ (σ5 51 6) →
                  ((¬ (0 : Int) = 0 →
                    ((¬ ((v1_5 - 1) % 10) = 1 →
                      ((((v1_5 - 1) % 10) ≤ 1 →
                        ((¬ ((v1_5 - 1) % 10) = 9 →
                          (∃ n' : Nat, n' < n5 ∧ I5 n' (v1_5 + 1) (up2 σ5 51 6 ((σ5 51 6) + 0)))) ∧
                        (((v1_5 - 1) % 10) = 9 →
                          (∃ n' : Nat, n' < n5 ∧ I5 n' (v1_5 + 1) (up2 σ5 51 6 ((σ5 51 6) + 1)))))) ∧
                      (¬ ((v1_5 - 1) % 10) ≤ 1 →
                        ((0 ≤ (((8 * (σ5 51 6)) + ((v1_5 - 1) % 10)) - 2) ∧ (((8 * (σ5 51 6)) + ((v1_5 - 1) % 10)) - 2) < 48) ∧
                        ((¬ ((v1_5 - 1) % 10) = 9 →
                          (∃ n' : Nat, n' < n5 ∧ I5 n' (v1_5 + 1) (up2 (up2 σ5 56 (((8 * (σ5 51 6)) + ((v1_5 - 1) % 10)) - 2).toNat ((σ5 57 v1_5.toNat) - 97)) 51 6 (((up2 σ5 56 (((8 * (σ5 51 6)) + ((v1_5 - 1) % 10)) - 2).toNat ((σ5 57 v1_5.toNat) - 97)) 51 6) + 0)))) ∧
                        (((v1_5 - 1) % 10) = 9 →
                          (∃ n' : Nat, n' < n5 ∧ I5 n' (v1_5 + 1) (up2 (up2 σ5 56 (((8 * (σ5 51 6)) + ((v1_5 - 1) % 10)) - 2).toNat ((σ5 57 v1_5.toNat) - 97)) 51 6 (((up2 σ5 56 (((8 * (σ5 51 6)) + ((v1_5 - 1) % 10)) - 2).toNat ((σ5 57 v1_5.toNat) - 97)) 51 6) + 1))))))))) ∧
                    (((v1_5 - 1) % 10) = 1 →
                      ((0 ≤ (σ5 51 6) ∧ (σ5 51 6) < 6) ∧
                      ((¬ ((v1_5 - 1) % 10) = 9 →
                        (∃ n' : Nat, n' < n5 ∧ I5 n' (v1_5 + 1) (up2 (up2 σ5 55 (σ5 51 6).toNat ((σ5 57 v1_5.toNat) - 48)) 51 6 (((up2 σ5 55 (σ5 51 6).toNat ((σ5 57 v1_5.toNat) - 48)) 51 6) + 0)))) ∧
                      (((v1_5 - 1) % 10) = 9 →
                        (∃ n' : Nat, n' < n5 ∧ I5 n' (v1_5 + 1) (up2 (up2 σ5 55 (σ5 51 6).toNat ((σ5 57 v1_5.toNat) - 48)) 51 6 (((up2 σ5 55 (σ5 51 6).toNat ((σ5 57 v1_5.toNat) - 48)) 51 6) + 1))))))))) ∧
                  ((0 : Int) = 0 →
                    (Post v1_5 σ5)))) ∧
                (¬ (6 : Int) ≤ (σ5 51 6) →
                  ((¬ (1 : Int) = 0 →
                    ((¬ ((v1_5 - 1) % 10) = 1 →
                      ((((v1_5 - 1) % 10) ≤ 1 →
                        ((¬ ((v1_5 - 1) % 10) = 9 →
                          (∃ n' : Nat, n' < n5 ∧ I5 n' (v1_5 + 1) (up2 σ5 51 6 ((σ5 51 6) + 0)))) ∧
                        (((v1_5 - 1) % 10) = 9 →
                          (∃ n' : Nat, n' < n5 ∧ I5 n' (v1_5 + 1) (up2 σ5 51 6 ((σ5 51 6) + 1)))))) ∧
                      (¬ ((v1_5 - 1) % 10) ≤ 1 →
                        ((0 ≤ (((8 * (σ5 51 6)) + ((v1_5 - 1) % 10)) - 2) ∧ (((8 * (σ5 51 6)) + ((v1_5 - 1) % 10)) - 2) < 48) ∧
                        ((¬ ((v1_5 - 1) % 10) = 9 →
                          (∃ n' : Nat, n' < n5 ∧ I5 n' (v1_5 + 1) (up2 (up2 σ5 56 (((8 * (σ5 51 6)) + ((v1_5 - 1) % 10)) - 2).toNat ((σ5 57 v1_5.toNat) - 97)) 51 6 (((up2 σ5 56 (((8 * (σ5 51 6)) + ((v1_5 - 1) % 10)) - 2).toNat ((σ5 57 v1_5.toNat) - 97)) 51 6) + 0)))) ∧
                        (((v1_5 - 1) % 10) = 9 →
                          (∃ n' : Nat, n' < n5 ∧ I5 n' (v1_5 + 1) (up2 (up2 σ5 56 (((8 * (σ5 51 6)) + ((v1_5 - 1) % 10)) - 2).toNat ((σ5 57 v1_5.toNat) - 97)) 51 6 (((up2 σ5 56 (((8 * (σ5 51 6)) + ((v1_5 - 1) % 10)) - 2).toNat ((σ5 57 v1_5.toNat) - 97)) 51 6) + 1))))))))) ∧
                    (((v1_5 - 1) % 10) = 1 →
                      ((0 ≤ (σ5 51 6) ∧ (σ5 51 6) < 6) ∧
                      ((¬ ((v1_5 - 1) % 10) = 9 →
                        (∃ n' : Nat, n' < n5 ∧ I5 n' (v1_5 + 1) (up2 (up2 σ5 55 (σ5 51 6).toNat ((σ5 57 v1_5.toNat) - 48)) 51 6 (((up2 σ5 55 (σ5 51 6).toNat ((σ5 57 v1_5.toNat) - 48)) 51 6) + 0)))) ∧
                      (((v1_5 - 1) % 10) = 9 →
                        (∃ n' : Nat, n' < n5 ∧ I5 n' (v1_5 + 1) (up2 (up2 σ5 55 (σ5 51 6).toNat ((σ5 57 v1_5.toNat) - 48)) 51 6 (((up2 σ5 55 (σ5 51 6).toNat ((σ5 57 v1_5.toNat) - 48)) 51 6) + 1))))))))) ∧
                  ((1 : Int) = 0 →
                    (Post v1_5 σ5)))))))))))))))))))) ∧
    (¬ ((up2 σ 51 6 0) 57 (0 : Int).toNat) = 70 →
      (Post 0 (up2 σ 51 6 0)))))))
set_option maxHeartbeats 4000000 in
set_option maxRecDepth 10000 in
theorem m_X10_readText (l : Launch) {ad : Nat → Nat} {D : va_G} {cI cZ cG : ClassId} (hI : Ij ad) {σ : GS}  {Post : Int → GS → Prop} (h : vc_X10_readText σ  Post) : Met l yX10_readText (wX yX10_readText cX10_readText 4 (some .int)) rm_X10_readText (va_Pc [.ref (ad 51)] (Wd ad D cI cZ cG σ)) (QI ad D cI cZ cG Post) 0 0 (Aw ad) := by
  refine met_V (own := RX10) hI (by decide +kernel) rfl (Nat.le_of_ble_eq_true rfl) ?_
  intro p e s m args below meth c C
  unfold vc_X10_readText at h
  show V p l e rm_X10_readText s m args below meth c ad D cI cZ cG (Aw ad) 4 0 0 (MQ below (QI ad D cI cZ cG Post) args s 0 0 (Aw ad)) σ 0 [(0, .ref (ad 51))] []
  refine x_aload_n (q := 1) (i := 0) C dX10_readText_0 rfl 0 rfl rfl ?_
  refine x_iconst (q := 2) (z := 0) C dX10_readText_1 rfl rfl ?_
  refine x_putI (q := 5) C (Nat.le_of_ble_eq_true rfl) ly_51 fk_RX10_60 rfl tyX10 tyX10_ok nmX10 rfl (tyX10_ok 6 (Nat.le_of_ble_eq_true rfl)) dX10_readText_2 rfl ?_
  refine x_aload_n (q := 6) (i := 0) C dX10_readText_5 rfl 0 rfl rfl ?_
  refine x_getI (q := 9) C (Nat.le_of_ble_eq_true rfl) ly_51 fk_RX10_56 rfl dX10_readText_6 rfl ?_
  obtain ⟨o1, h⟩ := h
  refine x_if_eq (q := 12) (tgt := 23) C dX10_readText_9 rfl o1 rfl (fun c2 => ?_) (fun c2 => ?_)
  · have h := h.1 c2
    refine x_iconst (q := 24) (z := 0) C dX10_readText_23 rfl rfl ?_
    exact x_iret C dX10_readText_24 h
  · have h := h.2 c2
    refine x_aload_n (q := 13) (i := 0) C dX10_readText_12 rfl 0 rfl rfl ?_
    refine x_getR (q := 16) (c0 := 57) C (Nat.le_of_ble_eq_true rfl) ly_51 fk_RX10_25 rfl dX10_readText_13 rfl ?_
    refine x_iconst (q := 17) (z := 0) C dX10_readText_16 rfl rfl ?_
    refine x_iald (q := 18) C (Nat.le_of_ble_eq_true rfl) ly_57 dX10_readText_17 ⟨by decide, by decide⟩ (Nat.le_of_ble_eq_true rfl) rfl ?_
    refine x_bipush (q := 20) (z := 70) C dX10_readText_18 rfl rfl ?_
    obtain ⟨o3, h⟩ := h
    refine x_icmp_eq (q := 23) (tgt := 25) C dX10_readText_20 rfl ⟨o3, by decide⟩ rfl (fun c4 => ?_) (fun c4 => ?_)
    · have h := h.1 c4
      refine x_iconst (q := 26) (z := 1) C dX10_readText_25 rfl rfl ?_
      refine x_istore_n (q := 27) (i := 1) (lv' := [(0, .ref (ad 51)), (1, .int (iI 1))]) C dX10_readText_26 rfl (Nat.le_of_ble_eq_true rfl) [1, 0] rfl rfl ?_
      obtain ⟨I5, ⟨n05, h05⟩, hs5⟩ := h
      have L5 : ∀ (n5 : Nat) (v1_5 : Int) (σ5 : GS), I5 n5 v1_5 σ5 → V p l e rm_X10_readText s m args below meth c ad D cI cZ cG (Aw ad) 4 0 0 (MQ below (QI ad D cI cZ cG Post) args s 0 0 (Aw ad)) σ5 27 [(0, .ref (ad 51)), (1, .int (iI v1_5))] [] := by
        intro n5
        induction n5 using Nat.strongRecOn with
        | ind n5 ih5 =>
          intro v1_5 σ5 h
          have h := hs5 n5 v1_5 σ5 h
          refine x_iload_n (q := 28) (i := 1) C dX10_readText_27 rfl 1 rfl rfl ?_
          refine x_aload_n (q := 29) (i := 0) C dX10_readText_28 rfl 0 rfl rfl ?_
          refine x_getI (q := 32) C (Nat.le_of_ble_eq_true rfl) ly_51 fk_RX10_56 rfl dX10_readText_29 rfl ?_
          obtain ⟨o6, h⟩ := h
          obtain ⟨o7, h⟩ := h
          refine x_icmp_ge (q := 35) (tgt := 203) C dX10_readText_32 rfl ⟨o6, o7⟩ rfl (fun c8 => ?_) (fun c8 => ?_)
          · have h := h.1 c8
            refine x_aload_n (q := 204) (i := 0) C dX10_readText_203 rfl 0 rfl rfl ?_
            refine x_getI (q := 207) C (Nat.le_of_ble_eq_true rfl) ly_51 fk_RX10_56 rfl dX10_readText_204 rfl ?_
            refine x_iconst (q := 208) (z := 1) C dX10_readText_207 rfl rfl ?_
            refine x_isub (q := 209) C dX10_readText_208  rfl ?_
            refine x_bipush (q := 211) (z := 10) C dX10_readText_209 rfl rfl ?_
            obtain ⟨o9, h⟩ := h
            refine x_irem (q := 212) C dX10_readText_211 ⟨o9, by decide⟩ rfl ?_
            obtain ⟨o10, h⟩ := h
            refine x_if_ne (q := 215) (tgt := 220) C dX10_readText_212 rfl o10 rfl (fun c11 => ?_) (fun c11 => ?_)
            · have h := h.1 c11
              refine x_aload_n (q := 221) (i := 0) C dX10_readText_220 rfl 0 rfl rfl ?_
              refine x_getI (q := 224) C (Nat.le_of_ble_eq_true rfl) ly_51 fk_RX10_56 rfl dX10_readText_221 rfl ?_
              exact x_iret C dX10_readText_224 h
            · have h := h.2 c11
              refine x_bipush (q := 217) (z := (-9)) C dX10_readText_215 rfl rfl ?_
              refine x_goto (tgt := 224) C dX10_readText_217 rfl ?_
              exact x_iret C dX10_readText_224 h
          · have h := h.2 c8
            refine x_iload_n (q := 36) (i := 1) C dX10_readText_35 rfl 1 rfl rfl ?_
            refine x_iconst (q := 37) (z := 1) C dX10_readText_36 rfl rfl ?_
            refine x_isub (q := 38) C dX10_readText_37  rfl ?_
            refine x_bipush (q := 40) (z := 10) C dX10_readText_38 rfl rfl ?_
            obtain ⟨o12, h⟩ := h
            refine x_irem (q := 41) C dX10_readText_40 ⟨o12, by decide⟩ rfl ?_
            refine x_istore_n (q := 42) (i := 2) (lv' := [(0, .ref (ad 51)), (1, .int (iI v1_5)), (2, .int (iI ((v1_5 - 1) % 10)))]) C dX10_readText_41 rfl (Nat.le_of_ble_eq_true rfl) [1, 2, 0] rfl rfl ?_
            refine x_iload_n (q := 43) (i := 2) C dX10_readText_42 rfl 2 rfl rfl ?_
            obtain ⟨o13, h⟩ := h
            refine x_if_ne (q := 46) (tgt := 74) C dX10_readText_43 rfl o13 rfl (fun c14 => ?_) (fun c14 => ?_)
            · have h := h.1 c14
              refine x_iload_n (q := 75) (i := 2) C dX10_readText_74 rfl 2 rfl rfl ?_
              refine x_iconst (q := 76) (z := 1) C dX10_readText_75 rfl rfl ?_
              refine x_icmp_ne (q := 79) (tgt := 98) C dX10_readText_76 rfl ⟨o13, by decide⟩ rfl (fun c15 => ?_) (fun c15 => ?_)
              · have h := h.1 c15
                refine x_aload_n (q := 99) (i := 0) C dX10_readText_98 rfl 0 rfl rfl ?_
                refine x_getR (q := 102) (c0 := 57) C (Nat.le_of_ble_eq_true rfl) ly_51 fk_RX10_25 rfl dX10_readText_99 rfl ?_
                refine x_iload_n (q := 103) (i := 1) C dX10_readText_102 rfl 1 rfl rfl ?_
                obtain ⟨o16, h⟩ := h
                refine x_iald (q := 104) C (Nat.le_of_ble_eq_true rfl) ly_57 dX10_readText_103 (ix o16 rfl) (Nat.le_of_ble_eq_true rfl) rfl ?_
                obtain ⟨o17, h⟩ := h
                refine x_i2l (q := 105) C dX10_readText_104 o17 rfl ?_
                refine x_ldc2 (q := 108) (z := 97) C dX10_readText_105 t4_49 rfl rfl ?_
                refine x_ldc2 (q := 111) (z := 122) C dX10_readText_108 t4_50 rfl rfl ?_
                refine x_staI (q := 114) C ck_RX10_52 t4_33 (m_X10_in l hI h) ⟨⟨rfl, rfl⟩, ⟨Nat.le_of_ble_eq_true rfl, Nat.le_of_ble_eq_true rfl⟩, ⟨Nat.zero_le _, Nat.zero_le _⟩⟩ dX10_readText_111 rfl rfl (Nat.le_of_ble_eq_true rfl) rfl (fun z18 σ18 h => ?_)
                rw [h.1]
                have h := h.2
                refine x_istore_n (q := 115) (i := 3) (lv' := [(0, .ref (ad 51)), (1, .int (iI v1_5)), (2, .int (iI ((v1_5 - 1) % 10))), (3, .int (iI z18))]) C dX10_readText_114 rfl (Nat.le_of_ble_eq_true rfl) [1, 2, 3, 0] rfl rfl ?_
                refine x_iload_n (q := 116) (i := 3) C dX10_readText_115 rfl 3 rfl rfl ?_
                obtain ⟨o19, h⟩ := h
                refine x_if_ne (q := 119) (tgt := 121) C dX10_readText_116 rfl o19 rfl (fun c20 => ?_) (fun c20 => ?_)
                · have h := h.1 c20
                  refine x_iload_n (q := 122) (i := 2) C dX10_readText_121 rfl 2 rfl rfl ?_
                  refine x_iconst (q := 123) (z := 1) C dX10_readText_122 rfl rfl ?_
                  refine x_icmp_ne (q := 126) (tgt := 147) C dX10_readText_123 rfl ⟨o13, by decide⟩ rfl (fun c21 => ?_) (fun c21 => ?_)
                  · have h := h.1 c21
                    refine x_iload_n (q := 148) (i := 2) C dX10_readText_147 rfl 2 rfl rfl ?_
                    refine x_iconst (q := 149) (z := 1) C dX10_readText_148 rfl rfl ?_
                    refine x_icmp_le (q := 152) (tgt := 177) C dX10_readText_149 rfl ⟨o13, by decide⟩ rfl (fun c22 => ?_) (fun c22 => ?_)
                    · have h := h.1 c22
                      refine x_aload_n (q := 178) (i := 0) C dX10_readText_177 rfl 0 rfl rfl ?_
                      refine x_dup (q := 179) C dX10_readText_178 rfl rfl ?_
                      refine x_getI (q := 182) C (Nat.le_of_ble_eq_true rfl) ly_51 fk_RX10_60 rfl dX10_readText_179 rfl ?_
                      refine x_iload_n (q := 183) (i := 2) C dX10_readText_182 rfl 2 rfl rfl ?_
                      refine x_bipush (q := 185) (z := 9) C dX10_readText_183 rfl rfl ?_
                      refine x_icmp_ne (q := 188) (tgt := 192) C dX10_readText_185 rfl ⟨o13, by decide⟩ rfl (fun c23 => ?_) (fun c23 => ?_)
                      · have h := h.1 c23
                        refine x_iconst (q := 193) (z := 0) C dX10_readText_192 rfl rfl ?_
                        refine x_iadd (q := 194) C dX10_readText_193  rfl ?_
                        refine x_putI (q := 197) C (Nat.le_of_ble_eq_true rfl) ly_51 fk_RX10_60 rfl tyX10 tyX10_ok nmX10 rfl (tyX10_ok 6 (Nat.le_of_ble_eq_true rfl)) dX10_readText_194 rfl ?_
                        refine x_iinc (q := 200) (z' := v1_5 + 1) (lv' := [(0, .ref (ad 51)), (1, .int (iI (v1_5 + 1))), (2, .int (iI ((v1_5 - 1) % 10))), (3, .int (iI z18))]) C dX10_readText_197 1 rfl rfl (Nat.le_of_ble_eq_true rfl) [1, 0, 2, 3] rfl rfl ?_
                        refine x_goto (tgt := 27) C dX10_readText_200 rfl ?_
                        obtain ⟨n24, hl25, h⟩ := h
                        refine x_sub [0, 1] rfl ?_
                        exact ih5 n24 hl25 _ _ h
                      · have h := h.2 c23
                        refine x_iconst (q := 189) (z := 1) C dX10_readText_188 rfl rfl ?_
                        refine x_goto (tgt := 193) C dX10_readText_189 rfl ?_
                        refine x_iadd (q := 194) C dX10_readText_193  rfl ?_
                        refine x_putI (q := 197) C (Nat.le_of_ble_eq_true rfl) ly_51 fk_RX10_60 rfl tyX10 tyX10_ok nmX10 rfl (tyX10_ok 6 (Nat.le_of_ble_eq_true rfl)) dX10_readText_194 rfl ?_
                        refine x_iinc (q := 200) (z' := v1_5 + 1) (lv' := [(0, .ref (ad 51)), (1, .int (iI (v1_5 + 1))), (2, .int (iI ((v1_5 - 1) % 10))), (3, .int (iI z18))]) C dX10_readText_197 1 rfl rfl (Nat.le_of_ble_eq_true rfl) [1, 0, 2, 3] rfl rfl ?_
                        refine x_goto (tgt := 27) C dX10_readText_200 rfl ?_
                        obtain ⟨n26, hl27, h⟩ := h
                        refine x_sub [0, 1] rfl ?_
                        exact ih5 n26 hl27 _ _ h
                    · have h := h.2 c22
                      refine x_aload_n (q := 153) (i := 0) C dX10_readText_152 rfl 0 rfl rfl ?_
                      refine x_getR (q := 156) (c0 := 56) C (Nat.le_of_ble_eq_true rfl) ly_51 fk_RX10_22 rfl dX10_readText_153 rfl ?_
                      refine x_bipush (q := 158) (z := 8) C dX10_readText_156 rfl rfl ?_
                      refine x_aload_n (q := 159) (i := 0) C dX10_readText_158 rfl 0 rfl rfl ?_
                      refine x_getI (q := 162) C (Nat.le_of_ble_eq_true rfl) ly_51 fk_RX10_60 rfl dX10_readText_159 rfl ?_
                      refine x_imul (q := 163) C dX10_readText_162  rfl ?_
                      refine x_iload_n (q := 164) (i := 2) C dX10_readText_163 rfl 2 rfl rfl ?_
                      refine x_iadd (q := 165) C dX10_readText_164  rfl ?_
                      refine x_iconst (q := 166) (z := 2) C dX10_readText_165 rfl rfl ?_
                      refine x_isub (q := 167) C dX10_readText_166  rfl ?_
                      refine x_aload_n (q := 168) (i := 0) C dX10_readText_167 rfl 0 rfl rfl ?_
                      refine x_getR (q := 171) (c0 := 57) C (Nat.le_of_ble_eq_true rfl) ly_51 fk_RX10_25 rfl dX10_readText_168 rfl ?_
                      refine x_iload_n (q := 172) (i := 1) C dX10_readText_171 rfl 1 rfl rfl ?_
                      refine x_iald (q := 173) C (Nat.le_of_ble_eq_true rfl) ly_57 dX10_readText_172 (ix o16 rfl) (Nat.le_of_ble_eq_true rfl) rfl ?_
                      refine x_bipush (q := 175) (z := 97) C dX10_readText_173 rfl rfl ?_
                      refine x_isub (q := 176) C dX10_readText_175  rfl ?_
                      obtain ⟨o28, h⟩ := h
                      refine x_iast (q := 177) C (Nat.le_of_ble_eq_true rfl) ly_56 dX10_readText_176 (ix o28 rfl) (Nat.le_of_ble_eq_true rfl)  rfl ?_
                      refine x_aload_n (q := 178) (i := 0) C dX10_readText_177 rfl 0 rfl rfl ?_
                      refine x_dup (q := 179) C dX10_readText_178 rfl rfl ?_
                      refine x_getI (q := 182) C (Nat.le_of_ble_eq_true rfl) ly_51 fk_RX10_60 rfl dX10_readText_179 rfl ?_
                      refine x_iload_n (q := 183) (i := 2) C dX10_readText_182 rfl 2 rfl rfl ?_
                      refine x_bipush (q := 185) (z := 9) C dX10_readText_183 rfl rfl ?_
                      refine x_icmp_ne (q := 188) (tgt := 192) C dX10_readText_185 rfl ⟨o13, by decide⟩ rfl (fun c29 => ?_) (fun c29 => ?_)
                      · have h := h.1 c29
                        refine x_iconst (q := 193) (z := 0) C dX10_readText_192 rfl rfl ?_
                        refine x_iadd (q := 194) C dX10_readText_193  rfl ?_
                        refine x_putI (q := 197) C (Nat.le_of_ble_eq_true rfl) ly_51 fk_RX10_60 rfl tyX10 tyX10_ok nmX10 rfl (tyX10_ok 6 (Nat.le_of_ble_eq_true rfl)) dX10_readText_194 rfl ?_
                        refine x_iinc (q := 200) (z' := v1_5 + 1) (lv' := [(0, .ref (ad 51)), (1, .int (iI (v1_5 + 1))), (2, .int (iI ((v1_5 - 1) % 10))), (3, .int (iI z18))]) C dX10_readText_197 1 rfl rfl (Nat.le_of_ble_eq_true rfl) [1, 0, 2, 3] rfl rfl ?_
                        refine x_goto (tgt := 27) C dX10_readText_200 rfl ?_
                        obtain ⟨n30, hl31, h⟩ := h
                        refine x_sub [0, 1] rfl ?_
                        exact ih5 n30 hl31 _ _ h
                      · have h := h.2 c29
                        refine x_iconst (q := 189) (z := 1) C dX10_readText_188 rfl rfl ?_
                        refine x_goto (tgt := 193) C dX10_readText_189 rfl ?_
                        refine x_iadd (q := 194) C dX10_readText_193  rfl ?_
                        refine x_putI (q := 197) C (Nat.le_of_ble_eq_true rfl) ly_51 fk_RX10_60 rfl tyX10 tyX10_ok nmX10 rfl (tyX10_ok 6 (Nat.le_of_ble_eq_true rfl)) dX10_readText_194 rfl ?_
                        refine x_iinc (q := 200) (z' := v1_5 + 1) (lv' := [(0, .ref (ad 51)), (1, .int (iI (v1_5 + 1))), (2, .int (iI ((v1_5 - 1) % 10))), (3, .int (iI z18))]) C dX10_readText_197 1 rfl rfl (Nat.le_of_ble_eq_true rfl) [1, 0, 2, 3] rfl rfl ?_
                        refine x_goto (tgt := 27) C dX10_readText_200 rfl ?_
                        obtain ⟨n32, hl33, h⟩ := h
                        refine x_sub [0, 1] rfl ?_
                        exact ih5 n32 hl33 _ _ h
                  · have h := h.2 c21
                    refine x_aload_n (q := 127) (i := 0) C dX10_readText_126 rfl 0 rfl rfl ?_
                    refine x_getR (q := 130) (c0 := 55) C (Nat.le_of_ble_eq_true rfl) ly_51 fk_RX10_19 rfl dX10_readText_127 rfl ?_
                    refine x_aload_n (q := 131) (i := 0) C dX10_readText_130 rfl 0 rfl rfl ?_
                    refine x_getI (q := 134) C (Nat.le_of_ble_eq_true rfl) ly_51 fk_RX10_60 rfl dX10_readText_131 rfl ?_
                    refine x_aload_n (q := 135) (i := 0) C dX10_readText_134 rfl 0 rfl rfl ?_
                    refine x_getR (q := 138) (c0 := 57) C (Nat.le_of_ble_eq_true rfl) ly_51 fk_RX10_25 rfl dX10_readText_135 rfl ?_
                    refine x_iload_n (q := 139) (i := 1) C dX10_readText_138 rfl 1 rfl rfl ?_
                    refine x_iald (q := 140) C (Nat.le_of_ble_eq_true rfl) ly_57 dX10_readText_139 (ix o16 rfl) (Nat.le_of_ble_eq_true rfl) rfl ?_
                    refine x_bipush (q := 142) (z := 48) C dX10_readText_140 rfl rfl ?_
                    refine x_isub (q := 143) C dX10_readText_142  rfl ?_
                    obtain ⟨o34, h⟩ := h
                    refine x_iast (q := 144) C (Nat.le_of_ble_eq_true rfl) ly_55 dX10_readText_143 (ix o34 rfl) (Nat.le_of_ble_eq_true rfl)  rfl ?_
                    refine x_goto (tgt := 177) C dX10_readText_144 rfl ?_
                    refine x_aload_n (q := 178) (i := 0) C dX10_readText_177 rfl 0 rfl rfl ?_
                    refine x_dup (q := 179) C dX10_readText_178 rfl rfl ?_
                    refine x_getI (q := 182) C (Nat.le_of_ble_eq_true rfl) ly_51 fk_RX10_60 rfl dX10_readText_179 rfl ?_
                    refine x_iload_n (q := 183) (i := 2) C dX10_readText_182 rfl 2 rfl rfl ?_
                    refine x_bipush (q := 185) (z := 9) C dX10_readText_183 rfl rfl ?_
                    refine x_icmp_ne (q := 188) (tgt := 192) C dX10_readText_185 rfl ⟨o13, by decide⟩ rfl (fun c35 => ?_) (fun c35 => ?_)
                    · have h := h.1 c35
                      refine x_iconst (q := 193) (z := 0) C dX10_readText_192 rfl rfl ?_
                      refine x_iadd (q := 194) C dX10_readText_193  rfl ?_
                      refine x_putI (q := 197) C (Nat.le_of_ble_eq_true rfl) ly_51 fk_RX10_60 rfl tyX10 tyX10_ok nmX10 rfl (tyX10_ok 6 (Nat.le_of_ble_eq_true rfl)) dX10_readText_194 rfl ?_
                      refine x_iinc (q := 200) (z' := v1_5 + 1) (lv' := [(0, .ref (ad 51)), (1, .int (iI (v1_5 + 1))), (2, .int (iI ((v1_5 - 1) % 10))), (3, .int (iI z18))]) C dX10_readText_197 1 rfl rfl (Nat.le_of_ble_eq_true rfl) [1, 0, 2, 3] rfl rfl ?_
                      refine x_goto (tgt := 27) C dX10_readText_200 rfl ?_
                      obtain ⟨n36, hl37, h⟩ := h
                      refine x_sub [0, 1] rfl ?_
                      exact ih5 n36 hl37 _ _ h
                    · have h := h.2 c35
                      refine x_iconst (q := 189) (z := 1) C dX10_readText_188 rfl rfl ?_
                      refine x_goto (tgt := 193) C dX10_readText_189 rfl ?_
                      refine x_iadd (q := 194) C dX10_readText_193  rfl ?_
                      refine x_putI (q := 197) C (Nat.le_of_ble_eq_true rfl) ly_51 fk_RX10_60 rfl tyX10 tyX10_ok nmX10 rfl (tyX10_ok 6 (Nat.le_of_ble_eq_true rfl)) dX10_readText_194 rfl ?_
                      refine x_iinc (q := 200) (z' := v1_5 + 1) (lv' := [(0, .ref (ad 51)), (1, .int (iI (v1_5 + 1))), (2, .int (iI ((v1_5 - 1) % 10))), (3, .int (iI z18))]) C dX10_readText_197 1 rfl rfl (Nat.le_of_ble_eq_true rfl) [1, 0, 2, 3] rfl rfl ?_
                      refine x_goto (tgt := 27) C dX10_readText_200 rfl ?_
                      obtain ⟨n38, hl39, h⟩ := h
                      refine x_sub [0, 1] rfl ?_
                      exact ih5 n38 hl39 _ _ h
                · have h := h.2 c20
                  refine x_iload_n (q := 120) (i := 1) C dX10_readText_119 rfl 1 rfl rfl ?_
                  exact x_iret C dX10_readText_120 h
              · have h := h.2 c15
                refine x_aload_n (q := 80) (i := 0) C dX10_readText_79 rfl 0 rfl rfl ?_
                refine x_getR (q := 83) (c0 := 57) C (Nat.le_of_ble_eq_true rfl) ly_51 fk_RX10_25 rfl dX10_readText_80 rfl ?_
                refine x_iload_n (q := 84) (i := 1) C dX10_readText_83 rfl 1 rfl rfl ?_
                obtain ⟨o40, h⟩ := h
                refine x_iald (q := 85) C (Nat.le_of_ble_eq_true rfl) ly_57 dX10_readText_84 (ix o40 rfl) (Nat.le_of_ble_eq_true rfl) rfl ?_
                obtain ⟨o41, h⟩ := h
                refine x_i2l (q := 86) C dX10_readText_85 o41 rfl ?_
                refine x_ldc2 (q := 89) (z := 48) C dX10_readText_86 t4_47 rfl rfl ?_
                refine x_ldc2 (q := 92) (z := 51) C dX10_readText_89 t4_48 rfl rfl ?_
                refine x_staI (q := 95) C ck_RX10_52 t4_33 (m_X10_in l hI h) ⟨⟨rfl, rfl⟩, ⟨Nat.le_of_ble_eq_true rfl, Nat.le_of_ble_eq_true rfl⟩, ⟨Nat.zero_le _, Nat.zero_le _⟩⟩ dX10_readText_92 rfl rfl (Nat.le_of_ble_eq_true rfl) rfl (fun z42 σ42 h => ?_)
                rw [h.1]
                have h := h.2
                refine x_goto (tgt := 114) C dX10_readText_95 rfl ?_
                refine x_istore_n (q := 115) (i := 3) (lv' := [(0, .ref (ad 51)), (1, .int (iI v1_5)), (2, .int (iI ((v1_5 - 1) % 10))), (3, .int (iI z42))]) C dX10_readText_114 rfl (Nat.le_of_ble_eq_true rfl) [1, 2, 3, 0] rfl rfl ?_
                refine x_iload_n (q := 116) (i := 3) C dX10_readText_115 rfl 3 rfl rfl ?_
                obtain ⟨o43, h⟩ := h
                refine x_if_ne (q := 119) (tgt := 121) C dX10_readText_116 rfl o43 rfl (fun c44 => ?_) (fun c44 => ?_)
                · have h := h.1 c44
                  refine x_iload_n (q := 122) (i := 2) C dX10_readText_121 rfl 2 rfl rfl ?_
                  refine x_iconst (q := 123) (z := 1) C dX10_readText_122 rfl rfl ?_
                  refine x_icmp_ne (q := 126) (tgt := 147) C dX10_readText_123 rfl ⟨o13, by decide⟩ rfl (fun c45 => ?_) (fun c45 => ?_)
                  · have h := h.1 c45
                    refine x_iload_n (q := 148) (i := 2) C dX10_readText_147 rfl 2 rfl rfl ?_
                    refine x_iconst (q := 149) (z := 1) C dX10_readText_148 rfl rfl ?_
                    refine x_icmp_le (q := 152) (tgt := 177) C dX10_readText_149 rfl ⟨o13, by decide⟩ rfl (fun c46 => ?_) (fun c46 => ?_)
                    · have h := h.1 c46
                      refine x_aload_n (q := 178) (i := 0) C dX10_readText_177 rfl 0 rfl rfl ?_
                      refine x_dup (q := 179) C dX10_readText_178 rfl rfl ?_
                      refine x_getI (q := 182) C (Nat.le_of_ble_eq_true rfl) ly_51 fk_RX10_60 rfl dX10_readText_179 rfl ?_
                      refine x_iload_n (q := 183) (i := 2) C dX10_readText_182 rfl 2 rfl rfl ?_
                      refine x_bipush (q := 185) (z := 9) C dX10_readText_183 rfl rfl ?_
                      refine x_icmp_ne (q := 188) (tgt := 192) C dX10_readText_185 rfl ⟨o13, by decide⟩ rfl (fun c47 => ?_) (fun c47 => ?_)
                      · have h := h.1 c47
                        refine x_iconst (q := 193) (z := 0) C dX10_readText_192 rfl rfl ?_
                        refine x_iadd (q := 194) C dX10_readText_193  rfl ?_
                        refine x_putI (q := 197) C (Nat.le_of_ble_eq_true rfl) ly_51 fk_RX10_60 rfl tyX10 tyX10_ok nmX10 rfl (tyX10_ok 6 (Nat.le_of_ble_eq_true rfl)) dX10_readText_194 rfl ?_
                        refine x_iinc (q := 200) (z' := v1_5 + 1) (lv' := [(0, .ref (ad 51)), (1, .int (iI (v1_5 + 1))), (2, .int (iI ((v1_5 - 1) % 10))), (3, .int (iI z42))]) C dX10_readText_197 1 rfl rfl (Nat.le_of_ble_eq_true rfl) [1, 0, 2, 3] rfl rfl ?_
                        refine x_goto (tgt := 27) C dX10_readText_200 rfl ?_
                        obtain ⟨n48, hl49, h⟩ := h
                        refine x_sub [0, 1] rfl ?_
                        exact ih5 n48 hl49 _ _ h
                      · have h := h.2 c47
                        refine x_iconst (q := 189) (z := 1) C dX10_readText_188 rfl rfl ?_
                        refine x_goto (tgt := 193) C dX10_readText_189 rfl ?_
                        refine x_iadd (q := 194) C dX10_readText_193  rfl ?_
                        refine x_putI (q := 197) C (Nat.le_of_ble_eq_true rfl) ly_51 fk_RX10_60 rfl tyX10 tyX10_ok nmX10 rfl (tyX10_ok 6 (Nat.le_of_ble_eq_true rfl)) dX10_readText_194 rfl ?_
                        refine x_iinc (q := 200) (z' := v1_5 + 1) (lv' := [(0, .ref (ad 51)), (1, .int (iI (v1_5 + 1))), (2, .int (iI ((v1_5 - 1) % 10))), (3, .int (iI z42))]) C dX10_readText_197 1 rfl rfl (Nat.le_of_ble_eq_true rfl) [1, 0, 2, 3] rfl rfl ?_
                        refine x_goto (tgt := 27) C dX10_readText_200 rfl ?_
                        obtain ⟨n50, hl51, h⟩ := h
                        refine x_sub [0, 1] rfl ?_
                        exact ih5 n50 hl51 _ _ h
                    · have h := h.2 c46
                      refine x_aload_n (q := 153) (i := 0) C dX10_readText_152 rfl 0 rfl rfl ?_
                      refine x_getR (q := 156) (c0 := 56) C (Nat.le_of_ble_eq_true rfl) ly_51 fk_RX10_22 rfl dX10_readText_153 rfl ?_
                      refine x_bipush (q := 158) (z := 8) C dX10_readText_156 rfl rfl ?_
                      refine x_aload_n (q := 159) (i := 0) C dX10_readText_158 rfl 0 rfl rfl ?_
                      refine x_getI (q := 162) C (Nat.le_of_ble_eq_true rfl) ly_51 fk_RX10_60 rfl dX10_readText_159 rfl ?_
                      refine x_imul (q := 163) C dX10_readText_162  rfl ?_
                      refine x_iload_n (q := 164) (i := 2) C dX10_readText_163 rfl 2 rfl rfl ?_
                      refine x_iadd (q := 165) C dX10_readText_164  rfl ?_
                      refine x_iconst (q := 166) (z := 2) C dX10_readText_165 rfl rfl ?_
                      refine x_isub (q := 167) C dX10_readText_166  rfl ?_
                      refine x_aload_n (q := 168) (i := 0) C dX10_readText_167 rfl 0 rfl rfl ?_
                      refine x_getR (q := 171) (c0 := 57) C (Nat.le_of_ble_eq_true rfl) ly_51 fk_RX10_25 rfl dX10_readText_168 rfl ?_
                      refine x_iload_n (q := 172) (i := 1) C dX10_readText_171 rfl 1 rfl rfl ?_
                      refine x_iald (q := 173) C (Nat.le_of_ble_eq_true rfl) ly_57 dX10_readText_172 (ix o40 rfl) (Nat.le_of_ble_eq_true rfl) rfl ?_
                      refine x_bipush (q := 175) (z := 97) C dX10_readText_173 rfl rfl ?_
                      refine x_isub (q := 176) C dX10_readText_175  rfl ?_
                      obtain ⟨o52, h⟩ := h
                      refine x_iast (q := 177) C (Nat.le_of_ble_eq_true rfl) ly_56 dX10_readText_176 (ix o52 rfl) (Nat.le_of_ble_eq_true rfl)  rfl ?_
                      refine x_aload_n (q := 178) (i := 0) C dX10_readText_177 rfl 0 rfl rfl ?_
                      refine x_dup (q := 179) C dX10_readText_178 rfl rfl ?_
                      refine x_getI (q := 182) C (Nat.le_of_ble_eq_true rfl) ly_51 fk_RX10_60 rfl dX10_readText_179 rfl ?_
                      refine x_iload_n (q := 183) (i := 2) C dX10_readText_182 rfl 2 rfl rfl ?_
                      refine x_bipush (q := 185) (z := 9) C dX10_readText_183 rfl rfl ?_
                      refine x_icmp_ne (q := 188) (tgt := 192) C dX10_readText_185 rfl ⟨o13, by decide⟩ rfl (fun c53 => ?_) (fun c53 => ?_)
                      · have h := h.1 c53
                        refine x_iconst (q := 193) (z := 0) C dX10_readText_192 rfl rfl ?_
                        refine x_iadd (q := 194) C dX10_readText_193  rfl ?_
                        refine x_putI (q := 197) C (Nat.le_of_ble_eq_true rfl) ly_51 fk_RX10_60 rfl tyX10 tyX10_ok nmX10 rfl (tyX10_ok 6 (Nat.le_of_ble_eq_true rfl)) dX10_readText_194 rfl ?_
                        refine x_iinc (q := 200) (z' := v1_5 + 1) (lv' := [(0, .ref (ad 51)), (1, .int (iI (v1_5 + 1))), (2, .int (iI ((v1_5 - 1) % 10))), (3, .int (iI z42))]) C dX10_readText_197 1 rfl rfl (Nat.le_of_ble_eq_true rfl) [1, 0, 2, 3] rfl rfl ?_
                        refine x_goto (tgt := 27) C dX10_readText_200 rfl ?_
                        obtain ⟨n54, hl55, h⟩ := h
                        refine x_sub [0, 1] rfl ?_
                        exact ih5 n54 hl55 _ _ h
                      · have h := h.2 c53
                        refine x_iconst (q := 189) (z := 1) C dX10_readText_188 rfl rfl ?_
                        refine x_goto (tgt := 193) C dX10_readText_189 rfl ?_
                        refine x_iadd (q := 194) C dX10_readText_193  rfl ?_
                        refine x_putI (q := 197) C (Nat.le_of_ble_eq_true rfl) ly_51 fk_RX10_60 rfl tyX10 tyX10_ok nmX10 rfl (tyX10_ok 6 (Nat.le_of_ble_eq_true rfl)) dX10_readText_194 rfl ?_
                        refine x_iinc (q := 200) (z' := v1_5 + 1) (lv' := [(0, .ref (ad 51)), (1, .int (iI (v1_5 + 1))), (2, .int (iI ((v1_5 - 1) % 10))), (3, .int (iI z42))]) C dX10_readText_197 1 rfl rfl (Nat.le_of_ble_eq_true rfl) [1, 0, 2, 3] rfl rfl ?_
                        refine x_goto (tgt := 27) C dX10_readText_200 rfl ?_
                        obtain ⟨n56, hl57, h⟩ := h
                        refine x_sub [0, 1] rfl ?_
                        exact ih5 n56 hl57 _ _ h
                  · have h := h.2 c45
                    refine x_aload_n (q := 127) (i := 0) C dX10_readText_126 rfl 0 rfl rfl ?_
                    refine x_getR (q := 130) (c0 := 55) C (Nat.le_of_ble_eq_true rfl) ly_51 fk_RX10_19 rfl dX10_readText_127 rfl ?_
                    refine x_aload_n (q := 131) (i := 0) C dX10_readText_130 rfl 0 rfl rfl ?_
                    refine x_getI (q := 134) C (Nat.le_of_ble_eq_true rfl) ly_51 fk_RX10_60 rfl dX10_readText_131 rfl ?_
                    refine x_aload_n (q := 135) (i := 0) C dX10_readText_134 rfl 0 rfl rfl ?_
                    refine x_getR (q := 138) (c0 := 57) C (Nat.le_of_ble_eq_true rfl) ly_51 fk_RX10_25 rfl dX10_readText_135 rfl ?_
                    refine x_iload_n (q := 139) (i := 1) C dX10_readText_138 rfl 1 rfl rfl ?_
                    refine x_iald (q := 140) C (Nat.le_of_ble_eq_true rfl) ly_57 dX10_readText_139 (ix o40 rfl) (Nat.le_of_ble_eq_true rfl) rfl ?_
                    refine x_bipush (q := 142) (z := 48) C dX10_readText_140 rfl rfl ?_
                    refine x_isub (q := 143) C dX10_readText_142  rfl ?_
                    obtain ⟨o58, h⟩ := h
                    refine x_iast (q := 144) C (Nat.le_of_ble_eq_true rfl) ly_55 dX10_readText_143 (ix o58 rfl) (Nat.le_of_ble_eq_true rfl)  rfl ?_
                    refine x_goto (tgt := 177) C dX10_readText_144 rfl ?_
                    refine x_aload_n (q := 178) (i := 0) C dX10_readText_177 rfl 0 rfl rfl ?_
                    refine x_dup (q := 179) C dX10_readText_178 rfl rfl ?_
                    refine x_getI (q := 182) C (Nat.le_of_ble_eq_true rfl) ly_51 fk_RX10_60 rfl dX10_readText_179 rfl ?_
                    refine x_iload_n (q := 183) (i := 2) C dX10_readText_182 rfl 2 rfl rfl ?_
                    refine x_bipush (q := 185) (z := 9) C dX10_readText_183 rfl rfl ?_
                    refine x_icmp_ne (q := 188) (tgt := 192) C dX10_readText_185 rfl ⟨o13, by decide⟩ rfl (fun c59 => ?_) (fun c59 => ?_)
                    · have h := h.1 c59
                      refine x_iconst (q := 193) (z := 0) C dX10_readText_192 rfl rfl ?_
                      refine x_iadd (q := 194) C dX10_readText_193  rfl ?_
                      refine x_putI (q := 197) C (Nat.le_of_ble_eq_true rfl) ly_51 fk_RX10_60 rfl tyX10 tyX10_ok nmX10 rfl (tyX10_ok 6 (Nat.le_of_ble_eq_true rfl)) dX10_readText_194 rfl ?_
                      refine x_iinc (q := 200) (z' := v1_5 + 1) (lv' := [(0, .ref (ad 51)), (1, .int (iI (v1_5 + 1))), (2, .int (iI ((v1_5 - 1) % 10))), (3, .int (iI z42))]) C dX10_readText_197 1 rfl rfl (Nat.le_of_ble_eq_true rfl) [1, 0, 2, 3] rfl rfl ?_
                      refine x_goto (tgt := 27) C dX10_readText_200 rfl ?_
                      obtain ⟨n60, hl61, h⟩ := h
                      refine x_sub [0, 1] rfl ?_
                      exact ih5 n60 hl61 _ _ h
                    · have h := h.2 c59
                      refine x_iconst (q := 189) (z := 1) C dX10_readText_188 rfl rfl ?_
                      refine x_goto (tgt := 193) C dX10_readText_189 rfl ?_
                      refine x_iadd (q := 194) C dX10_readText_193  rfl ?_
                      refine x_putI (q := 197) C (Nat.le_of_ble_eq_true rfl) ly_51 fk_RX10_60 rfl tyX10 tyX10_ok nmX10 rfl (tyX10_ok 6 (Nat.le_of_ble_eq_true rfl)) dX10_readText_194 rfl ?_
                      refine x_iinc (q := 200) (z' := v1_5 + 1) (lv' := [(0, .ref (ad 51)), (1, .int (iI (v1_5 + 1))), (2, .int (iI ((v1_5 - 1) % 10))), (3, .int (iI z42))]) C dX10_readText_197 1 rfl rfl (Nat.le_of_ble_eq_true rfl) [1, 0, 2, 3] rfl rfl ?_
                      refine x_goto (tgt := 27) C dX10_readText_200 rfl ?_
                      obtain ⟨n62, hl63, h⟩ := h
                      refine x_sub [0, 1] rfl ?_
                      exact ih5 n62 hl63 _ _ h
                · have h := h.2 c44
                  refine x_iload_n (q := 120) (i := 1) C dX10_readText_119 rfl 1 rfl rfl ?_
                  exact x_iret C dX10_readText_120 h
            · have h := h.2 c14
              refine x_aload_n (q := 47) (i := 0) C dX10_readText_46 rfl 0 rfl rfl ?_
              refine x_getR (q := 50) (c0 := 57) C (Nat.le_of_ble_eq_true rfl) ly_51 fk_RX10_25 rfl dX10_readText_47 rfl ?_
              refine x_iload_n (q := 51) (i := 1) C dX10_readText_50 rfl 1 rfl rfl ?_
              obtain ⟨o64, h⟩ := h
              refine x_iald (q := 52) C (Nat.le_of_ble_eq_true rfl) ly_57 dX10_readText_51 (ix o64 rfl) (Nat.le_of_ble_eq_true rfl) rfl ?_
              refine x_bipush (q := 54) (z := 66) C dX10_readText_52 rfl rfl ?_
              obtain ⟨o65, h⟩ := h
              refine x_icmp_ne (q := 57) (tgt := 70) C dX10_readText_54 rfl ⟨o65, by decide⟩ rfl (fun c66 => ?_) (fun c66 => ?_)
              · have h := h.1 c66
                refine x_iconst (q := 71) (z := 0) C dX10_readText_70 rfl rfl ?_
                refine x_goto (tgt := 114) C dX10_readText_71 rfl ?_
                refine x_istore_n (q := 115) (i := 3) (lv' := [(0, .ref (ad 51)), (1, .int (iI v1_5)), (2, .int (iI ((v1_5 - 1) % 10))), (3, .int (iI 0))]) C dX10_readText_114 rfl (Nat.le_of_ble_eq_true rfl) [1, 2, 3, 0] rfl rfl ?_
                refine x_iload_n (q := 116) (i := 3) C dX10_readText_115 rfl 3 rfl rfl ?_
                refine x_if_ne (q := 119) (tgt := 121) C dX10_readText_116 rfl (by decide) rfl (fun c67 => ?_) (fun c67 => ?_)
                · have h := h.1 c67
                  refine x_iload_n (q := 122) (i := 2) C dX10_readText_121 rfl 2 rfl rfl ?_
                  refine x_iconst (q := 123) (z := 1) C dX10_readText_122 rfl rfl ?_
                  refine x_icmp_ne (q := 126) (tgt := 147) C dX10_readText_123 rfl ⟨o13, by decide⟩ rfl (fun c68 => ?_) (fun c68 => ?_)
                  · have h := h.1 c68
                    refine x_iload_n (q := 148) (i := 2) C dX10_readText_147 rfl 2 rfl rfl ?_
                    refine x_iconst (q := 149) (z := 1) C dX10_readText_148 rfl rfl ?_
                    refine x_icmp_le (q := 152) (tgt := 177) C dX10_readText_149 rfl ⟨o13, by decide⟩ rfl (fun c69 => ?_) (fun c69 => ?_)
                    · have h := h.1 c69
                      refine x_aload_n (q := 178) (i := 0) C dX10_readText_177 rfl 0 rfl rfl ?_
                      refine x_dup (q := 179) C dX10_readText_178 rfl rfl ?_
                      refine x_getI (q := 182) C (Nat.le_of_ble_eq_true rfl) ly_51 fk_RX10_60 rfl dX10_readText_179 rfl ?_
                      refine x_iload_n (q := 183) (i := 2) C dX10_readText_182 rfl 2 rfl rfl ?_
                      refine x_bipush (q := 185) (z := 9) C dX10_readText_183 rfl rfl ?_
                      refine x_icmp_ne (q := 188) (tgt := 192) C dX10_readText_185 rfl ⟨o13, by decide⟩ rfl (fun c70 => ?_) (fun c70 => ?_)
                      · have h := h.1 c70
                        refine x_iconst (q := 193) (z := 0) C dX10_readText_192 rfl rfl ?_
                        refine x_iadd (q := 194) C dX10_readText_193  rfl ?_
                        refine x_putI (q := 197) C (Nat.le_of_ble_eq_true rfl) ly_51 fk_RX10_60 rfl tyX10 tyX10_ok nmX10 rfl (tyX10_ok 6 (Nat.le_of_ble_eq_true rfl)) dX10_readText_194 rfl ?_
                        refine x_iinc (q := 200) (z' := v1_5 + 1) (lv' := [(0, .ref (ad 51)), (1, .int (iI (v1_5 + 1))), (2, .int (iI ((v1_5 - 1) % 10))), (3, .int (iI 0))]) C dX10_readText_197 1 rfl rfl (Nat.le_of_ble_eq_true rfl) [1, 0, 2, 3] rfl rfl ?_
                        refine x_goto (tgt := 27) C dX10_readText_200 rfl ?_
                        obtain ⟨n71, hl72, h⟩ := h
                        refine x_sub [0, 1] rfl ?_
                        exact ih5 n71 hl72 _ _ h
                      · have h := h.2 c70
                        refine x_iconst (q := 189) (z := 1) C dX10_readText_188 rfl rfl ?_
                        refine x_goto (tgt := 193) C dX10_readText_189 rfl ?_
                        refine x_iadd (q := 194) C dX10_readText_193  rfl ?_
                        refine x_putI (q := 197) C (Nat.le_of_ble_eq_true rfl) ly_51 fk_RX10_60 rfl tyX10 tyX10_ok nmX10 rfl (tyX10_ok 6 (Nat.le_of_ble_eq_true rfl)) dX10_readText_194 rfl ?_
                        refine x_iinc (q := 200) (z' := v1_5 + 1) (lv' := [(0, .ref (ad 51)), (1, .int (iI (v1_5 + 1))), (2, .int (iI ((v1_5 - 1) % 10))), (3, .int (iI 0))]) C dX10_readText_197 1 rfl rfl (Nat.le_of_ble_eq_true rfl) [1, 0, 2, 3] rfl rfl ?_
                        refine x_goto (tgt := 27) C dX10_readText_200 rfl ?_
                        obtain ⟨n73, hl74, h⟩ := h
                        refine x_sub [0, 1] rfl ?_
                        exact ih5 n73 hl74 _ _ h
                    · have h := h.2 c69
                      refine x_aload_n (q := 153) (i := 0) C dX10_readText_152 rfl 0 rfl rfl ?_
                      refine x_getR (q := 156) (c0 := 56) C (Nat.le_of_ble_eq_true rfl) ly_51 fk_RX10_22 rfl dX10_readText_153 rfl ?_
                      refine x_bipush (q := 158) (z := 8) C dX10_readText_156 rfl rfl ?_
                      refine x_aload_n (q := 159) (i := 0) C dX10_readText_158 rfl 0 rfl rfl ?_
                      refine x_getI (q := 162) C (Nat.le_of_ble_eq_true rfl) ly_51 fk_RX10_60 rfl dX10_readText_159 rfl ?_
                      refine x_imul (q := 163) C dX10_readText_162  rfl ?_
                      refine x_iload_n (q := 164) (i := 2) C dX10_readText_163 rfl 2 rfl rfl ?_
                      refine x_iadd (q := 165) C dX10_readText_164  rfl ?_
                      refine x_iconst (q := 166) (z := 2) C dX10_readText_165 rfl rfl ?_
                      refine x_isub (q := 167) C dX10_readText_166  rfl ?_
                      refine x_aload_n (q := 168) (i := 0) C dX10_readText_167 rfl 0 rfl rfl ?_
                      refine x_getR (q := 171) (c0 := 57) C (Nat.le_of_ble_eq_true rfl) ly_51 fk_RX10_25 rfl dX10_readText_168 rfl ?_
                      refine x_iload_n (q := 172) (i := 1) C dX10_readText_171 rfl 1 rfl rfl ?_
                      refine x_iald (q := 173) C (Nat.le_of_ble_eq_true rfl) ly_57 dX10_readText_172 (ix o64 rfl) (Nat.le_of_ble_eq_true rfl) rfl ?_
                      refine x_bipush (q := 175) (z := 97) C dX10_readText_173 rfl rfl ?_
                      refine x_isub (q := 176) C dX10_readText_175  rfl ?_
                      obtain ⟨o75, h⟩ := h
                      refine x_iast (q := 177) C (Nat.le_of_ble_eq_true rfl) ly_56 dX10_readText_176 (ix o75 rfl) (Nat.le_of_ble_eq_true rfl)  rfl ?_
                      refine x_aload_n (q := 178) (i := 0) C dX10_readText_177 rfl 0 rfl rfl ?_
                      refine x_dup (q := 179) C dX10_readText_178 rfl rfl ?_
                      refine x_getI (q := 182) C (Nat.le_of_ble_eq_true rfl) ly_51 fk_RX10_60 rfl dX10_readText_179 rfl ?_
                      refine x_iload_n (q := 183) (i := 2) C dX10_readText_182 rfl 2 rfl rfl ?_
                      refine x_bipush (q := 185) (z := 9) C dX10_readText_183 rfl rfl ?_
                      refine x_icmp_ne (q := 188) (tgt := 192) C dX10_readText_185 rfl ⟨o13, by decide⟩ rfl (fun c76 => ?_) (fun c76 => ?_)
                      · have h := h.1 c76
                        refine x_iconst (q := 193) (z := 0) C dX10_readText_192 rfl rfl ?_
                        refine x_iadd (q := 194) C dX10_readText_193  rfl ?_
                        refine x_putI (q := 197) C (Nat.le_of_ble_eq_true rfl) ly_51 fk_RX10_60 rfl tyX10 tyX10_ok nmX10 rfl (tyX10_ok 6 (Nat.le_of_ble_eq_true rfl)) dX10_readText_194 rfl ?_
                        refine x_iinc (q := 200) (z' := v1_5 + 1) (lv' := [(0, .ref (ad 51)), (1, .int (iI (v1_5 + 1))), (2, .int (iI ((v1_5 - 1) % 10))), (3, .int (iI 0))]) C dX10_readText_197 1 rfl rfl (Nat.le_of_ble_eq_true rfl) [1, 0, 2, 3] rfl rfl ?_
                        refine x_goto (tgt := 27) C dX10_readText_200 rfl ?_
                        obtain ⟨n77, hl78, h⟩ := h
                        refine x_sub [0, 1] rfl ?_
                        exact ih5 n77 hl78 _ _ h
                      · have h := h.2 c76
                        refine x_iconst (q := 189) (z := 1) C dX10_readText_188 rfl rfl ?_
                        refine x_goto (tgt := 193) C dX10_readText_189 rfl ?_
                        refine x_iadd (q := 194) C dX10_readText_193  rfl ?_
                        refine x_putI (q := 197) C (Nat.le_of_ble_eq_true rfl) ly_51 fk_RX10_60 rfl tyX10 tyX10_ok nmX10 rfl (tyX10_ok 6 (Nat.le_of_ble_eq_true rfl)) dX10_readText_194 rfl ?_
                        refine x_iinc (q := 200) (z' := v1_5 + 1) (lv' := [(0, .ref (ad 51)), (1, .int (iI (v1_5 + 1))), (2, .int (iI ((v1_5 - 1) % 10))), (3, .int (iI 0))]) C dX10_readText_197 1 rfl rfl (Nat.le_of_ble_eq_true rfl) [1, 0, 2, 3] rfl rfl ?_
                        refine x_goto (tgt := 27) C dX10_readText_200 rfl ?_
                        obtain ⟨n79, hl80, h⟩ := h
                        refine x_sub [0, 1] rfl ?_
                        exact ih5 n79 hl80 _ _ h
                  · have h := h.2 c68
                    refine x_aload_n (q := 127) (i := 0) C dX10_readText_126 rfl 0 rfl rfl ?_
                    refine x_getR (q := 130) (c0 := 55) C (Nat.le_of_ble_eq_true rfl) ly_51 fk_RX10_19 rfl dX10_readText_127 rfl ?_
                    refine x_aload_n (q := 131) (i := 0) C dX10_readText_130 rfl 0 rfl rfl ?_
                    refine x_getI (q := 134) C (Nat.le_of_ble_eq_true rfl) ly_51 fk_RX10_60 rfl dX10_readText_131 rfl ?_
                    refine x_aload_n (q := 135) (i := 0) C dX10_readText_134 rfl 0 rfl rfl ?_
                    refine x_getR (q := 138) (c0 := 57) C (Nat.le_of_ble_eq_true rfl) ly_51 fk_RX10_25 rfl dX10_readText_135 rfl ?_
                    refine x_iload_n (q := 139) (i := 1) C dX10_readText_138 rfl 1 rfl rfl ?_
                    refine x_iald (q := 140) C (Nat.le_of_ble_eq_true rfl) ly_57 dX10_readText_139 (ix o64 rfl) (Nat.le_of_ble_eq_true rfl) rfl ?_
                    refine x_bipush (q := 142) (z := 48) C dX10_readText_140 rfl rfl ?_
                    refine x_isub (q := 143) C dX10_readText_142  rfl ?_
                    obtain ⟨o81, h⟩ := h
                    refine x_iast (q := 144) C (Nat.le_of_ble_eq_true rfl) ly_55 dX10_readText_143 (ix o81 rfl) (Nat.le_of_ble_eq_true rfl)  rfl ?_
                    refine x_goto (tgt := 177) C dX10_readText_144 rfl ?_
                    refine x_aload_n (q := 178) (i := 0) C dX10_readText_177 rfl 0 rfl rfl ?_
                    refine x_dup (q := 179) C dX10_readText_178 rfl rfl ?_
                    refine x_getI (q := 182) C (Nat.le_of_ble_eq_true rfl) ly_51 fk_RX10_60 rfl dX10_readText_179 rfl ?_
                    refine x_iload_n (q := 183) (i := 2) C dX10_readText_182 rfl 2 rfl rfl ?_
                    refine x_bipush (q := 185) (z := 9) C dX10_readText_183 rfl rfl ?_
                    refine x_icmp_ne (q := 188) (tgt := 192) C dX10_readText_185 rfl ⟨o13, by decide⟩ rfl (fun c82 => ?_) (fun c82 => ?_)
                    · have h := h.1 c82
                      refine x_iconst (q := 193) (z := 0) C dX10_readText_192 rfl rfl ?_
                      refine x_iadd (q := 194) C dX10_readText_193  rfl ?_
                      refine x_putI (q := 197) C (Nat.le_of_ble_eq_true rfl) ly_51 fk_RX10_60 rfl tyX10 tyX10_ok nmX10 rfl (tyX10_ok 6 (Nat.le_of_ble_eq_true rfl)) dX10_readText_194 rfl ?_
                      refine x_iinc (q := 200) (z' := v1_5 + 1) (lv' := [(0, .ref (ad 51)), (1, .int (iI (v1_5 + 1))), (2, .int (iI ((v1_5 - 1) % 10))), (3, .int (iI 0))]) C dX10_readText_197 1 rfl rfl (Nat.le_of_ble_eq_true rfl) [1, 0, 2, 3] rfl rfl ?_
                      refine x_goto (tgt := 27) C dX10_readText_200 rfl ?_
                      obtain ⟨n83, hl84, h⟩ := h
                      refine x_sub [0, 1] rfl ?_
                      exact ih5 n83 hl84 _ _ h
                    · have h := h.2 c82
                      refine x_iconst (q := 189) (z := 1) C dX10_readText_188 rfl rfl ?_
                      refine x_goto (tgt := 193) C dX10_readText_189 rfl ?_
                      refine x_iadd (q := 194) C dX10_readText_193  rfl ?_
                      refine x_putI (q := 197) C (Nat.le_of_ble_eq_true rfl) ly_51 fk_RX10_60 rfl tyX10 tyX10_ok nmX10 rfl (tyX10_ok 6 (Nat.le_of_ble_eq_true rfl)) dX10_readText_194 rfl ?_
                      refine x_iinc (q := 200) (z' := v1_5 + 1) (lv' := [(0, .ref (ad 51)), (1, .int (iI (v1_5 + 1))), (2, .int (iI ((v1_5 - 1) % 10))), (3, .int (iI 0))]) C dX10_readText_197 1 rfl rfl (Nat.le_of_ble_eq_true rfl) [1, 0, 2, 3] rfl rfl ?_
                      refine x_goto (tgt := 27) C dX10_readText_200 rfl ?_
                      obtain ⟨n85, hl86, h⟩ := h
                      refine x_sub [0, 1] rfl ?_
                      exact ih5 n85 hl86 _ _ h
                · have h := h.2 c67
                  refine x_iload_n (q := 120) (i := 1) C dX10_readText_119 rfl 1 rfl rfl ?_
                  exact x_iret C dX10_readText_120 h
              · have h := h.2 c66
                refine x_aload_n (q := 58) (i := 0) C dX10_readText_57 rfl 0 rfl rfl ?_
                refine x_getI (q := 61) C (Nat.le_of_ble_eq_true rfl) ly_51 fk_RX10_60 rfl dX10_readText_58 rfl ?_
                refine x_bipush (q := 63) (z := 6) C dX10_readText_61 rfl rfl ?_
                obtain ⟨o87, h⟩ := h
                refine x_icmp_ge (q := 66) (tgt := 70) C dX10_readText_63 rfl ⟨o87, by decide⟩ rfl (fun c88 => ?_) (fun c88 => ?_)
                · have h := h.1 c88
                  refine x_iconst (q := 71) (z := 0) C dX10_readText_70 rfl rfl ?_
                  refine x_goto (tgt := 114) C dX10_readText_71 rfl ?_
                  refine x_istore_n (q := 115) (i := 3) (lv' := [(0, .ref (ad 51)), (1, .int (iI v1_5)), (2, .int (iI ((v1_5 - 1) % 10))), (3, .int (iI 0))]) C dX10_readText_114 rfl (Nat.le_of_ble_eq_true rfl) [1, 2, 3, 0] rfl rfl ?_
                  refine x_iload_n (q := 116) (i := 3) C dX10_readText_115 rfl 3 rfl rfl ?_
                  refine x_if_ne (q := 119) (tgt := 121) C dX10_readText_116 rfl (by decide) rfl (fun c89 => ?_) (fun c89 => ?_)
                  · have h := h.1 c89
                    refine x_iload_n (q := 122) (i := 2) C dX10_readText_121 rfl 2 rfl rfl ?_
                    refine x_iconst (q := 123) (z := 1) C dX10_readText_122 rfl rfl ?_
                    refine x_icmp_ne (q := 126) (tgt := 147) C dX10_readText_123 rfl ⟨o13, by decide⟩ rfl (fun c90 => ?_) (fun c90 => ?_)
                    · have h := h.1 c90
                      refine x_iload_n (q := 148) (i := 2) C dX10_readText_147 rfl 2 rfl rfl ?_
                      refine x_iconst (q := 149) (z := 1) C dX10_readText_148 rfl rfl ?_
                      refine x_icmp_le (q := 152) (tgt := 177) C dX10_readText_149 rfl ⟨o13, by decide⟩ rfl (fun c91 => ?_) (fun c91 => ?_)
                      · have h := h.1 c91
                        refine x_aload_n (q := 178) (i := 0) C dX10_readText_177 rfl 0 rfl rfl ?_
                        refine x_dup (q := 179) C dX10_readText_178 rfl rfl ?_
                        refine x_getI (q := 182) C (Nat.le_of_ble_eq_true rfl) ly_51 fk_RX10_60 rfl dX10_readText_179 rfl ?_
                        refine x_iload_n (q := 183) (i := 2) C dX10_readText_182 rfl 2 rfl rfl ?_
                        refine x_bipush (q := 185) (z := 9) C dX10_readText_183 rfl rfl ?_
                        refine x_icmp_ne (q := 188) (tgt := 192) C dX10_readText_185 rfl ⟨o13, by decide⟩ rfl (fun c92 => ?_) (fun c92 => ?_)
                        · have h := h.1 c92
                          refine x_iconst (q := 193) (z := 0) C dX10_readText_192 rfl rfl ?_
                          refine x_iadd (q := 194) C dX10_readText_193  rfl ?_
                          refine x_putI (q := 197) C (Nat.le_of_ble_eq_true rfl) ly_51 fk_RX10_60 rfl tyX10 tyX10_ok nmX10 rfl (tyX10_ok 6 (Nat.le_of_ble_eq_true rfl)) dX10_readText_194 rfl ?_
                          refine x_iinc (q := 200) (z' := v1_5 + 1) (lv' := [(0, .ref (ad 51)), (1, .int (iI (v1_5 + 1))), (2, .int (iI ((v1_5 - 1) % 10))), (3, .int (iI 0))]) C dX10_readText_197 1 rfl rfl (Nat.le_of_ble_eq_true rfl) [1, 0, 2, 3] rfl rfl ?_
                          refine x_goto (tgt := 27) C dX10_readText_200 rfl ?_
                          obtain ⟨n93, hl94, h⟩ := h
                          refine x_sub [0, 1] rfl ?_
                          exact ih5 n93 hl94 _ _ h
                        · have h := h.2 c92
                          refine x_iconst (q := 189) (z := 1) C dX10_readText_188 rfl rfl ?_
                          refine x_goto (tgt := 193) C dX10_readText_189 rfl ?_
                          refine x_iadd (q := 194) C dX10_readText_193  rfl ?_
                          refine x_putI (q := 197) C (Nat.le_of_ble_eq_true rfl) ly_51 fk_RX10_60 rfl tyX10 tyX10_ok nmX10 rfl (tyX10_ok 6 (Nat.le_of_ble_eq_true rfl)) dX10_readText_194 rfl ?_
                          refine x_iinc (q := 200) (z' := v1_5 + 1) (lv' := [(0, .ref (ad 51)), (1, .int (iI (v1_5 + 1))), (2, .int (iI ((v1_5 - 1) % 10))), (3, .int (iI 0))]) C dX10_readText_197 1 rfl rfl (Nat.le_of_ble_eq_true rfl) [1, 0, 2, 3] rfl rfl ?_
                          refine x_goto (tgt := 27) C dX10_readText_200 rfl ?_
                          obtain ⟨n95, hl96, h⟩ := h
                          refine x_sub [0, 1] rfl ?_
                          exact ih5 n95 hl96 _ _ h
                      · have h := h.2 c91
                        refine x_aload_n (q := 153) (i := 0) C dX10_readText_152 rfl 0 rfl rfl ?_
                        refine x_getR (q := 156) (c0 := 56) C (Nat.le_of_ble_eq_true rfl) ly_51 fk_RX10_22 rfl dX10_readText_153 rfl ?_
                        refine x_bipush (q := 158) (z := 8) C dX10_readText_156 rfl rfl ?_
                        refine x_aload_n (q := 159) (i := 0) C dX10_readText_158 rfl 0 rfl rfl ?_
                        refine x_getI (q := 162) C (Nat.le_of_ble_eq_true rfl) ly_51 fk_RX10_60 rfl dX10_readText_159 rfl ?_
                        refine x_imul (q := 163) C dX10_readText_162  rfl ?_
                        refine x_iload_n (q := 164) (i := 2) C dX10_readText_163 rfl 2 rfl rfl ?_
                        refine x_iadd (q := 165) C dX10_readText_164  rfl ?_
                        refine x_iconst (q := 166) (z := 2) C dX10_readText_165 rfl rfl ?_
                        refine x_isub (q := 167) C dX10_readText_166  rfl ?_
                        refine x_aload_n (q := 168) (i := 0) C dX10_readText_167 rfl 0 rfl rfl ?_
                        refine x_getR (q := 171) (c0 := 57) C (Nat.le_of_ble_eq_true rfl) ly_51 fk_RX10_25 rfl dX10_readText_168 rfl ?_
                        refine x_iload_n (q := 172) (i := 1) C dX10_readText_171 rfl 1 rfl rfl ?_
                        refine x_iald (q := 173) C (Nat.le_of_ble_eq_true rfl) ly_57 dX10_readText_172 (ix o64 rfl) (Nat.le_of_ble_eq_true rfl) rfl ?_
                        refine x_bipush (q := 175) (z := 97) C dX10_readText_173 rfl rfl ?_
                        refine x_isub (q := 176) C dX10_readText_175  rfl ?_
                        obtain ⟨o97, h⟩ := h
                        refine x_iast (q := 177) C (Nat.le_of_ble_eq_true rfl) ly_56 dX10_readText_176 (ix o97 rfl) (Nat.le_of_ble_eq_true rfl)  rfl ?_
                        refine x_aload_n (q := 178) (i := 0) C dX10_readText_177 rfl 0 rfl rfl ?_
                        refine x_dup (q := 179) C dX10_readText_178 rfl rfl ?_
                        refine x_getI (q := 182) C (Nat.le_of_ble_eq_true rfl) ly_51 fk_RX10_60 rfl dX10_readText_179 rfl ?_
                        refine x_iload_n (q := 183) (i := 2) C dX10_readText_182 rfl 2 rfl rfl ?_
                        refine x_bipush (q := 185) (z := 9) C dX10_readText_183 rfl rfl ?_
                        refine x_icmp_ne (q := 188) (tgt := 192) C dX10_readText_185 rfl ⟨o13, by decide⟩ rfl (fun c98 => ?_) (fun c98 => ?_)
                        · have h := h.1 c98
                          refine x_iconst (q := 193) (z := 0) C dX10_readText_192 rfl rfl ?_
                          refine x_iadd (q := 194) C dX10_readText_193  rfl ?_
                          refine x_putI (q := 197) C (Nat.le_of_ble_eq_true rfl) ly_51 fk_RX10_60 rfl tyX10 tyX10_ok nmX10 rfl (tyX10_ok 6 (Nat.le_of_ble_eq_true rfl)) dX10_readText_194 rfl ?_
                          refine x_iinc (q := 200) (z' := v1_5 + 1) (lv' := [(0, .ref (ad 51)), (1, .int (iI (v1_5 + 1))), (2, .int (iI ((v1_5 - 1) % 10))), (3, .int (iI 0))]) C dX10_readText_197 1 rfl rfl (Nat.le_of_ble_eq_true rfl) [1, 0, 2, 3] rfl rfl ?_
                          refine x_goto (tgt := 27) C dX10_readText_200 rfl ?_
                          obtain ⟨n99, hl100, h⟩ := h
                          refine x_sub [0, 1] rfl ?_
                          exact ih5 n99 hl100 _ _ h
                        · have h := h.2 c98
                          refine x_iconst (q := 189) (z := 1) C dX10_readText_188 rfl rfl ?_
                          refine x_goto (tgt := 193) C dX10_readText_189 rfl ?_
                          refine x_iadd (q := 194) C dX10_readText_193  rfl ?_
                          refine x_putI (q := 197) C (Nat.le_of_ble_eq_true rfl) ly_51 fk_RX10_60 rfl tyX10 tyX10_ok nmX10 rfl (tyX10_ok 6 (Nat.le_of_ble_eq_true rfl)) dX10_readText_194 rfl ?_
                          refine x_iinc (q := 200) (z' := v1_5 + 1) (lv' := [(0, .ref (ad 51)), (1, .int (iI (v1_5 + 1))), (2, .int (iI ((v1_5 - 1) % 10))), (3, .int (iI 0))]) C dX10_readText_197 1 rfl rfl (Nat.le_of_ble_eq_true rfl) [1, 0, 2, 3] rfl rfl ?_
                          refine x_goto (tgt := 27) C dX10_readText_200 rfl ?_
                          obtain ⟨n101, hl102, h⟩ := h
                          refine x_sub [0, 1] rfl ?_
                          exact ih5 n101 hl102 _ _ h
                    · have h := h.2 c90
                      refine x_aload_n (q := 127) (i := 0) C dX10_readText_126 rfl 0 rfl rfl ?_
                      refine x_getR (q := 130) (c0 := 55) C (Nat.le_of_ble_eq_true rfl) ly_51 fk_RX10_19 rfl dX10_readText_127 rfl ?_
                      refine x_aload_n (q := 131) (i := 0) C dX10_readText_130 rfl 0 rfl rfl ?_
                      refine x_getI (q := 134) C (Nat.le_of_ble_eq_true rfl) ly_51 fk_RX10_60 rfl dX10_readText_131 rfl ?_
                      refine x_aload_n (q := 135) (i := 0) C dX10_readText_134 rfl 0 rfl rfl ?_
                      refine x_getR (q := 138) (c0 := 57) C (Nat.le_of_ble_eq_true rfl) ly_51 fk_RX10_25 rfl dX10_readText_135 rfl ?_
                      refine x_iload_n (q := 139) (i := 1) C dX10_readText_138 rfl 1 rfl rfl ?_
                      refine x_iald (q := 140) C (Nat.le_of_ble_eq_true rfl) ly_57 dX10_readText_139 (ix o64 rfl) (Nat.le_of_ble_eq_true rfl) rfl ?_
                      refine x_bipush (q := 142) (z := 48) C dX10_readText_140 rfl rfl ?_
                      refine x_isub (q := 143) C dX10_readText_142  rfl ?_
                      obtain ⟨o103, h⟩ := h
                      refine x_iast (q := 144) C (Nat.le_of_ble_eq_true rfl) ly_55 dX10_readText_143 (ix o103 rfl) (Nat.le_of_ble_eq_true rfl)  rfl ?_
                      refine x_goto (tgt := 177) C dX10_readText_144 rfl ?_
                      refine x_aload_n (q := 178) (i := 0) C dX10_readText_177 rfl 0 rfl rfl ?_
                      refine x_dup (q := 179) C dX10_readText_178 rfl rfl ?_
                      refine x_getI (q := 182) C (Nat.le_of_ble_eq_true rfl) ly_51 fk_RX10_60 rfl dX10_readText_179 rfl ?_
                      refine x_iload_n (q := 183) (i := 2) C dX10_readText_182 rfl 2 rfl rfl ?_
                      refine x_bipush (q := 185) (z := 9) C dX10_readText_183 rfl rfl ?_
                      refine x_icmp_ne (q := 188) (tgt := 192) C dX10_readText_185 rfl ⟨o13, by decide⟩ rfl (fun c104 => ?_) (fun c104 => ?_)
                      · have h := h.1 c104
                        refine x_iconst (q := 193) (z := 0) C dX10_readText_192 rfl rfl ?_
                        refine x_iadd (q := 194) C dX10_readText_193  rfl ?_
                        refine x_putI (q := 197) C (Nat.le_of_ble_eq_true rfl) ly_51 fk_RX10_60 rfl tyX10 tyX10_ok nmX10 rfl (tyX10_ok 6 (Nat.le_of_ble_eq_true rfl)) dX10_readText_194 rfl ?_
                        refine x_iinc (q := 200) (z' := v1_5 + 1) (lv' := [(0, .ref (ad 51)), (1, .int (iI (v1_5 + 1))), (2, .int (iI ((v1_5 - 1) % 10))), (3, .int (iI 0))]) C dX10_readText_197 1 rfl rfl (Nat.le_of_ble_eq_true rfl) [1, 0, 2, 3] rfl rfl ?_
                        refine x_goto (tgt := 27) C dX10_readText_200 rfl ?_
                        obtain ⟨n105, hl106, h⟩ := h
                        refine x_sub [0, 1] rfl ?_
                        exact ih5 n105 hl106 _ _ h
                      · have h := h.2 c104
                        refine x_iconst (q := 189) (z := 1) C dX10_readText_188 rfl rfl ?_
                        refine x_goto (tgt := 193) C dX10_readText_189 rfl ?_
                        refine x_iadd (q := 194) C dX10_readText_193  rfl ?_
                        refine x_putI (q := 197) C (Nat.le_of_ble_eq_true rfl) ly_51 fk_RX10_60 rfl tyX10 tyX10_ok nmX10 rfl (tyX10_ok 6 (Nat.le_of_ble_eq_true rfl)) dX10_readText_194 rfl ?_
                        refine x_iinc (q := 200) (z' := v1_5 + 1) (lv' := [(0, .ref (ad 51)), (1, .int (iI (v1_5 + 1))), (2, .int (iI ((v1_5 - 1) % 10))), (3, .int (iI 0))]) C dX10_readText_197 1 rfl rfl (Nat.le_of_ble_eq_true rfl) [1, 0, 2, 3] rfl rfl ?_
                        refine x_goto (tgt := 27) C dX10_readText_200 rfl ?_
                        obtain ⟨n107, hl108, h⟩ := h
                        refine x_sub [0, 1] rfl ?_
                        exact ih5 n107 hl108 _ _ h
                  · have h := h.2 c89
                    refine x_iload_n (q := 120) (i := 1) C dX10_readText_119 rfl 1 rfl rfl ?_
                    exact x_iret C dX10_readText_120 h
                · have h := h.2 c88
                  refine x_iconst (q := 67) (z := 1) C dX10_readText_66 rfl rfl ?_
                  refine x_goto (tgt := 114) C dX10_readText_67 rfl ?_
                  refine x_istore_n (q := 115) (i := 3) (lv' := [(0, .ref (ad 51)), (1, .int (iI v1_5)), (2, .int (iI ((v1_5 - 1) % 10))), (3, .int (iI 1))]) C dX10_readText_114 rfl (Nat.le_of_ble_eq_true rfl) [1, 2, 3, 0] rfl rfl ?_
                  refine x_iload_n (q := 116) (i := 3) C dX10_readText_115 rfl 3 rfl rfl ?_
                  refine x_if_ne (q := 119) (tgt := 121) C dX10_readText_116 rfl (by decide) rfl (fun c109 => ?_) (fun c109 => ?_)
                  · have h := h.1 c109
                    refine x_iload_n (q := 122) (i := 2) C dX10_readText_121 rfl 2 rfl rfl ?_
                    refine x_iconst (q := 123) (z := 1) C dX10_readText_122 rfl rfl ?_
                    refine x_icmp_ne (q := 126) (tgt := 147) C dX10_readText_123 rfl ⟨o13, by decide⟩ rfl (fun c110 => ?_) (fun c110 => ?_)
                    · have h := h.1 c110
                      refine x_iload_n (q := 148) (i := 2) C dX10_readText_147 rfl 2 rfl rfl ?_
                      refine x_iconst (q := 149) (z := 1) C dX10_readText_148 rfl rfl ?_
                      refine x_icmp_le (q := 152) (tgt := 177) C dX10_readText_149 rfl ⟨o13, by decide⟩ rfl (fun c111 => ?_) (fun c111 => ?_)
                      · have h := h.1 c111
                        refine x_aload_n (q := 178) (i := 0) C dX10_readText_177 rfl 0 rfl rfl ?_
                        refine x_dup (q := 179) C dX10_readText_178 rfl rfl ?_
                        refine x_getI (q := 182) C (Nat.le_of_ble_eq_true rfl) ly_51 fk_RX10_60 rfl dX10_readText_179 rfl ?_
                        refine x_iload_n (q := 183) (i := 2) C dX10_readText_182 rfl 2 rfl rfl ?_
                        refine x_bipush (q := 185) (z := 9) C dX10_readText_183 rfl rfl ?_
                        refine x_icmp_ne (q := 188) (tgt := 192) C dX10_readText_185 rfl ⟨o13, by decide⟩ rfl (fun c112 => ?_) (fun c112 => ?_)
                        · have h := h.1 c112
                          refine x_iconst (q := 193) (z := 0) C dX10_readText_192 rfl rfl ?_
                          refine x_iadd (q := 194) C dX10_readText_193  rfl ?_
                          refine x_putI (q := 197) C (Nat.le_of_ble_eq_true rfl) ly_51 fk_RX10_60 rfl tyX10 tyX10_ok nmX10 rfl (tyX10_ok 6 (Nat.le_of_ble_eq_true rfl)) dX10_readText_194 rfl ?_
                          refine x_iinc (q := 200) (z' := v1_5 + 1) (lv' := [(0, .ref (ad 51)), (1, .int (iI (v1_5 + 1))), (2, .int (iI ((v1_5 - 1) % 10))), (3, .int (iI 1))]) C dX10_readText_197 1 rfl rfl (Nat.le_of_ble_eq_true rfl) [1, 0, 2, 3] rfl rfl ?_
                          refine x_goto (tgt := 27) C dX10_readText_200 rfl ?_
                          obtain ⟨n113, hl114, h⟩ := h
                          refine x_sub [0, 1] rfl ?_
                          exact ih5 n113 hl114 _ _ h
                        · have h := h.2 c112
                          refine x_iconst (q := 189) (z := 1) C dX10_readText_188 rfl rfl ?_
                          refine x_goto (tgt := 193) C dX10_readText_189 rfl ?_
                          refine x_iadd (q := 194) C dX10_readText_193  rfl ?_
                          refine x_putI (q := 197) C (Nat.le_of_ble_eq_true rfl) ly_51 fk_RX10_60 rfl tyX10 tyX10_ok nmX10 rfl (tyX10_ok 6 (Nat.le_of_ble_eq_true rfl)) dX10_readText_194 rfl ?_
                          refine x_iinc (q := 200) (z' := v1_5 + 1) (lv' := [(0, .ref (ad 51)), (1, .int (iI (v1_5 + 1))), (2, .int (iI ((v1_5 - 1) % 10))), (3, .int (iI 1))]) C dX10_readText_197 1 rfl rfl (Nat.le_of_ble_eq_true rfl) [1, 0, 2, 3] rfl rfl ?_
                          refine x_goto (tgt := 27) C dX10_readText_200 rfl ?_
                          obtain ⟨n115, hl116, h⟩ := h
                          refine x_sub [0, 1] rfl ?_
                          exact ih5 n115 hl116 _ _ h
                      · have h := h.2 c111
                        refine x_aload_n (q := 153) (i := 0) C dX10_readText_152 rfl 0 rfl rfl ?_
                        refine x_getR (q := 156) (c0 := 56) C (Nat.le_of_ble_eq_true rfl) ly_51 fk_RX10_22 rfl dX10_readText_153 rfl ?_
                        refine x_bipush (q := 158) (z := 8) C dX10_readText_156 rfl rfl ?_
                        refine x_aload_n (q := 159) (i := 0) C dX10_readText_158 rfl 0 rfl rfl ?_
                        refine x_getI (q := 162) C (Nat.le_of_ble_eq_true rfl) ly_51 fk_RX10_60 rfl dX10_readText_159 rfl ?_
                        refine x_imul (q := 163) C dX10_readText_162  rfl ?_
                        refine x_iload_n (q := 164) (i := 2) C dX10_readText_163 rfl 2 rfl rfl ?_
                        refine x_iadd (q := 165) C dX10_readText_164  rfl ?_
                        refine x_iconst (q := 166) (z := 2) C dX10_readText_165 rfl rfl ?_
                        refine x_isub (q := 167) C dX10_readText_166  rfl ?_
                        refine x_aload_n (q := 168) (i := 0) C dX10_readText_167 rfl 0 rfl rfl ?_
                        refine x_getR (q := 171) (c0 := 57) C (Nat.le_of_ble_eq_true rfl) ly_51 fk_RX10_25 rfl dX10_readText_168 rfl ?_
                        refine x_iload_n (q := 172) (i := 1) C dX10_readText_171 rfl 1 rfl rfl ?_
                        refine x_iald (q := 173) C (Nat.le_of_ble_eq_true rfl) ly_57 dX10_readText_172 (ix o64 rfl) (Nat.le_of_ble_eq_true rfl) rfl ?_
                        refine x_bipush (q := 175) (z := 97) C dX10_readText_173 rfl rfl ?_
                        refine x_isub (q := 176) C dX10_readText_175  rfl ?_
                        obtain ⟨o117, h⟩ := h
                        refine x_iast (q := 177) C (Nat.le_of_ble_eq_true rfl) ly_56 dX10_readText_176 (ix o117 rfl) (Nat.le_of_ble_eq_true rfl)  rfl ?_
                        refine x_aload_n (q := 178) (i := 0) C dX10_readText_177 rfl 0 rfl rfl ?_
                        refine x_dup (q := 179) C dX10_readText_178 rfl rfl ?_
                        refine x_getI (q := 182) C (Nat.le_of_ble_eq_true rfl) ly_51 fk_RX10_60 rfl dX10_readText_179 rfl ?_
                        refine x_iload_n (q := 183) (i := 2) C dX10_readText_182 rfl 2 rfl rfl ?_
                        refine x_bipush (q := 185) (z := 9) C dX10_readText_183 rfl rfl ?_
                        refine x_icmp_ne (q := 188) (tgt := 192) C dX10_readText_185 rfl ⟨o13, by decide⟩ rfl (fun c118 => ?_) (fun c118 => ?_)
                        · have h := h.1 c118
                          refine x_iconst (q := 193) (z := 0) C dX10_readText_192 rfl rfl ?_
                          refine x_iadd (q := 194) C dX10_readText_193  rfl ?_
                          refine x_putI (q := 197) C (Nat.le_of_ble_eq_true rfl) ly_51 fk_RX10_60 rfl tyX10 tyX10_ok nmX10 rfl (tyX10_ok 6 (Nat.le_of_ble_eq_true rfl)) dX10_readText_194 rfl ?_
                          refine x_iinc (q := 200) (z' := v1_5 + 1) (lv' := [(0, .ref (ad 51)), (1, .int (iI (v1_5 + 1))), (2, .int (iI ((v1_5 - 1) % 10))), (3, .int (iI 1))]) C dX10_readText_197 1 rfl rfl (Nat.le_of_ble_eq_true rfl) [1, 0, 2, 3] rfl rfl ?_
                          refine x_goto (tgt := 27) C dX10_readText_200 rfl ?_
                          obtain ⟨n119, hl120, h⟩ := h
                          refine x_sub [0, 1] rfl ?_
                          exact ih5 n119 hl120 _ _ h
                        · have h := h.2 c118
                          refine x_iconst (q := 189) (z := 1) C dX10_readText_188 rfl rfl ?_
                          refine x_goto (tgt := 193) C dX10_readText_189 rfl ?_
                          refine x_iadd (q := 194) C dX10_readText_193  rfl ?_
                          refine x_putI (q := 197) C (Nat.le_of_ble_eq_true rfl) ly_51 fk_RX10_60 rfl tyX10 tyX10_ok nmX10 rfl (tyX10_ok 6 (Nat.le_of_ble_eq_true rfl)) dX10_readText_194 rfl ?_
                          refine x_iinc (q := 200) (z' := v1_5 + 1) (lv' := [(0, .ref (ad 51)), (1, .int (iI (v1_5 + 1))), (2, .int (iI ((v1_5 - 1) % 10))), (3, .int (iI 1))]) C dX10_readText_197 1 rfl rfl (Nat.le_of_ble_eq_true rfl) [1, 0, 2, 3] rfl rfl ?_
                          refine x_goto (tgt := 27) C dX10_readText_200 rfl ?_
                          obtain ⟨n121, hl122, h⟩ := h
                          refine x_sub [0, 1] rfl ?_
                          exact ih5 n121 hl122 _ _ h
                    · have h := h.2 c110
                      refine x_aload_n (q := 127) (i := 0) C dX10_readText_126 rfl 0 rfl rfl ?_
                      refine x_getR (q := 130) (c0 := 55) C (Nat.le_of_ble_eq_true rfl) ly_51 fk_RX10_19 rfl dX10_readText_127 rfl ?_
                      refine x_aload_n (q := 131) (i := 0) C dX10_readText_130 rfl 0 rfl rfl ?_
                      refine x_getI (q := 134) C (Nat.le_of_ble_eq_true rfl) ly_51 fk_RX10_60 rfl dX10_readText_131 rfl ?_
                      refine x_aload_n (q := 135) (i := 0) C dX10_readText_134 rfl 0 rfl rfl ?_
                      refine x_getR (q := 138) (c0 := 57) C (Nat.le_of_ble_eq_true rfl) ly_51 fk_RX10_25 rfl dX10_readText_135 rfl ?_
                      refine x_iload_n (q := 139) (i := 1) C dX10_readText_138 rfl 1 rfl rfl ?_
                      refine x_iald (q := 140) C (Nat.le_of_ble_eq_true rfl) ly_57 dX10_readText_139 (ix o64 rfl) (Nat.le_of_ble_eq_true rfl) rfl ?_
                      refine x_bipush (q := 142) (z := 48) C dX10_readText_140 rfl rfl ?_
                      refine x_isub (q := 143) C dX10_readText_142  rfl ?_
                      obtain ⟨o123, h⟩ := h
                      refine x_iast (q := 144) C (Nat.le_of_ble_eq_true rfl) ly_55 dX10_readText_143 (ix o123 rfl) (Nat.le_of_ble_eq_true rfl)  rfl ?_
                      refine x_goto (tgt := 177) C dX10_readText_144 rfl ?_
                      refine x_aload_n (q := 178) (i := 0) C dX10_readText_177 rfl 0 rfl rfl ?_
                      refine x_dup (q := 179) C dX10_readText_178 rfl rfl ?_
                      refine x_getI (q := 182) C (Nat.le_of_ble_eq_true rfl) ly_51 fk_RX10_60 rfl dX10_readText_179 rfl ?_
                      refine x_iload_n (q := 183) (i := 2) C dX10_readText_182 rfl 2 rfl rfl ?_
                      refine x_bipush (q := 185) (z := 9) C dX10_readText_183 rfl rfl ?_
                      refine x_icmp_ne (q := 188) (tgt := 192) C dX10_readText_185 rfl ⟨o13, by decide⟩ rfl (fun c124 => ?_) (fun c124 => ?_)
                      · have h := h.1 c124
                        refine x_iconst (q := 193) (z := 0) C dX10_readText_192 rfl rfl ?_
                        refine x_iadd (q := 194) C dX10_readText_193  rfl ?_
                        refine x_putI (q := 197) C (Nat.le_of_ble_eq_true rfl) ly_51 fk_RX10_60 rfl tyX10 tyX10_ok nmX10 rfl (tyX10_ok 6 (Nat.le_of_ble_eq_true rfl)) dX10_readText_194 rfl ?_
                        refine x_iinc (q := 200) (z' := v1_5 + 1) (lv' := [(0, .ref (ad 51)), (1, .int (iI (v1_5 + 1))), (2, .int (iI ((v1_5 - 1) % 10))), (3, .int (iI 1))]) C dX10_readText_197 1 rfl rfl (Nat.le_of_ble_eq_true rfl) [1, 0, 2, 3] rfl rfl ?_
                        refine x_goto (tgt := 27) C dX10_readText_200 rfl ?_
                        obtain ⟨n125, hl126, h⟩ := h
                        refine x_sub [0, 1] rfl ?_
                        exact ih5 n125 hl126 _ _ h
                      · have h := h.2 c124
                        refine x_iconst (q := 189) (z := 1) C dX10_readText_188 rfl rfl ?_
                        refine x_goto (tgt := 193) C dX10_readText_189 rfl ?_
                        refine x_iadd (q := 194) C dX10_readText_193  rfl ?_
                        refine x_putI (q := 197) C (Nat.le_of_ble_eq_true rfl) ly_51 fk_RX10_60 rfl tyX10 tyX10_ok nmX10 rfl (tyX10_ok 6 (Nat.le_of_ble_eq_true rfl)) dX10_readText_194 rfl ?_
                        refine x_iinc (q := 200) (z' := v1_5 + 1) (lv' := [(0, .ref (ad 51)), (1, .int (iI (v1_5 + 1))), (2, .int (iI ((v1_5 - 1) % 10))), (3, .int (iI 1))]) C dX10_readText_197 1 rfl rfl (Nat.le_of_ble_eq_true rfl) [1, 0, 2, 3] rfl rfl ?_
                        refine x_goto (tgt := 27) C dX10_readText_200 rfl ?_
                        obtain ⟨n127, hl128, h⟩ := h
                        refine x_sub [0, 1] rfl ?_
                        exact ih5 n127 hl128 _ _ h
                  · have h := h.2 c109
                    refine x_iload_n (q := 120) (i := 1) C dX10_readText_119 rfl 1 rfl rfl ?_
                    exact x_iret C dX10_readText_120 h
      exact L5 n05 1 (up2 σ 51 6 0) h05
    · have h := h.2 c4
      refine x_iconst (q := 24) (z := 0) C dX10_readText_23 rfl rfl ?_
      exact x_iret C dX10_readText_24 h
abbrev rm_X10_fault : Room := { frames := 2, cells := 0, slots := 0, locals := 48 }
def vc_X10_fault (σ : GS)  (Post : Int → GS → Prop) : Prop :=
  vc_X10_readText σ  (fun (z1 : Int) (σ1 : GS) =>
    Post z1 σ1)
set_option maxHeartbeats 4000000 in
set_option maxRecDepth 10000 in
theorem m_X10_fault (l : Launch) {ad : Nat → Nat} {D : va_G} {cI cZ cG : ClassId} (hI : Ij ad) {σ : GS}  {Post : Int → GS → Prop} (h : vc_X10_fault σ  Post) : Met l yX10_fault (wX yX10_fault cX10_fault 1 (some .int)) rm_X10_fault (va_Pc [.ref (ad 51)] (Wd ad D cI cZ cG σ)) (QI ad D cI cZ cG Post) 0 0 (Aw ad) := by
  refine met_V (own := RX10) hI (by decide +kernel) rfl (Nat.le_of_ble_eq_true rfl) ?_
  intro p e s m args below meth c C
  unfold vc_X10_fault at h
  show V p l e rm_X10_fault s m args below meth c ad D cI cZ cG (Aw ad) 1 0 0 (MQ below (QI ad D cI cZ cG Post) args s 0 0 (Aw ad)) σ 0 [(0, .ref (ad 51))] []
  refine x_aload_n (q := 1) (i := 0) C dX10_fault_0 rfl 0 rfl rfl ?_
  refine x_virI (q := 4) C (Nat.le_of_ble_eq_true rfl) ly_51 rfl ck_RX10_71 vk_X10_readText (m_X10_readText l hI h) ⟨⟨rfl, rfl⟩, ⟨Nat.le_of_ble_eq_true rfl, Nat.le_of_ble_eq_true rfl⟩, ⟨Nat.zero_le _, Nat.zero_le _⟩⟩ dX10_fault_1 rfl rfl (Nat.le_of_ble_eq_true rfl) rfl (fun z1 σ1 h => ?_)
  exact x_iret C dX10_fault_4 h
abbrev rm_X10_fan : Room := { frames := 2, cells := 0, slots := 0, locals := 48 }
def vc_X10_fan (σ : GS)  (Post : Int → GS → Prop) : Prop :=
  vc_X10_readText σ  (fun (z1 : Int) (σ1 : GS) =>
    (rg z1) ∧
  ((z1 = (-9) →
    (∃ I4 : Nat → Int → GS → Prop, (∃ n : Nat, I4 n 0 (up2 σ1 51 0 (σ1 51 6))) ∧ ∀ (n4 : Nat) (v1_4 : Int) (σ4 : GS), I4 n4 v1_4 σ4 →
    ((rg v1_4) ∧
        (((6 : Int) ≤ v1_4 →
          (∃ I7 : Nat → Int → GS → Prop, (∃ n : Nat, I7 n 0 σ4) ∧ ∀ (n7 : Nat) (v1_7 : Int) (σ7 : GS), I7 n7 v1_7 σ7 →
          ((rg v1_7) ∧
              (((48 : Int) ≤ v1_7 →
                (∃ I10 : Nat → Int → GS → Prop, (∃ n : Nat, I10 n 0 σ7) ∧ ∀ (n10 : Nat) (v1_10 : Int) (σ10 : GS), I10 n10 v1_10 σ10 →
                ((rg v1_10) ∧
                    (((5 : Int) ≤ v1_10 →
                      (Post ((up2 (up2 (up2 σ10 51 11 0) 63 (0 : Int).toNat 0) 63 (1 : Int).toNat 0) 51 0) (up2 (up2 (up2 σ10 51 11 0) 63 (0 : Int).toNat 0) 63 (1 : Int).toNat 0))) ∧
                    (¬ (5 : Int) ≤ v1_10 →
                      ((0 ≤ v1_10 ∧ v1_10 < 10) ∧
                      (∃ n' : Nat, n' < n10 ∧ I10 n' (v1_10 + 1) (up2 σ10 54 v1_10.toNat 0)))))))) ∧
              (¬ (48 : Int) ≤ v1_7 →
                ((0 ≤ v1_7 ∧ v1_7 < 48) ∧
                (∃ n' : Nat, n' < n7 ∧ I7 n' (v1_7 + 1) (up2 σ7 53 v1_7.toNat (σ7 56 v1_7.toNat))))))))) ∧
        (¬ (6 : Int) ≤ v1_4 →
          ((0 ≤ v1_4 ∧ v1_4 < 6) ∧
          (∃ n' : Nat, n' < n4 ∧ I4 n' (v1_4 + 1) (up2 σ4 52 v1_4.toNat (σ4 55 v1_4.toNat))))))))) ∧
  (¬ z1 = (-9) →
    (Post (-3) σ1))))
set_option maxHeartbeats 4000000 in
set_option maxRecDepth 10000 in
theorem m_X10_fan (l : Launch) {ad : Nat → Nat} {D : va_G} {cI cZ cG : ClassId} (hI : Ij ad) {σ : GS}  {Post : Int → GS → Prop} (h : vc_X10_fan σ  Post) : Met l yX10_fan (wX yX10_fan cX10_fan 2 (some .int)) rm_X10_fan (va_Pc [.ref (ad 51)] (Wd ad D cI cZ cG σ)) (QI ad D cI cZ cG Post) 0 0 (Aw ad) := by
  refine met_V (own := RX10) hI (by decide +kernel) rfl (Nat.le_of_ble_eq_true rfl) ?_
  intro p e s m args below meth c C
  unfold vc_X10_fan at h
  show V p l e rm_X10_fan s m args below meth c ad D cI cZ cG (Aw ad) 2 0 0 (MQ below (QI ad D cI cZ cG Post) args s 0 0 (Aw ad)) σ 0 [(0, .ref (ad 51))] []
  refine x_aload_n (q := 1) (i := 0) C dX10_fan_0 rfl 0 rfl rfl ?_
  refine x_virI (q := 4) C (Nat.le_of_ble_eq_true rfl) ly_51 rfl ck_RX10_71 vk_X10_readText (m_X10_readText l hI h) ⟨⟨rfl, rfl⟩, ⟨Nat.le_of_ble_eq_true rfl, Nat.le_of_ble_eq_true rfl⟩, ⟨Nat.zero_le _, Nat.zero_le _⟩⟩ dX10_fan_1 rfl rfl (Nat.le_of_ble_eq_true rfl) rfl (fun z1 σ1 h => ?_)
  refine x_bipush (q := 6) (z := (-9)) C dX10_fan_4 rfl rfl ?_
  obtain ⟨o2, h⟩ := h
  refine x_icmp_eq (q := 9) (tgt := 12) C dX10_fan_6 rfl ⟨o2, by decide⟩ rfl (fun c3 => ?_) (fun c3 => ?_)
  · have h := h.1 c3
    refine x_aload_n (q := 13) (i := 0) C dX10_fan_12 rfl 0 rfl rfl ?_
    refine x_aload_n (q := 14) (i := 0) C dX10_fan_13 rfl 0 rfl rfl ?_
    refine x_getI (q := 17) C (Nat.le_of_ble_eq_true rfl) ly_51 fk_RX10_60 rfl dX10_fan_14 rfl ?_
    refine x_putI (q := 20) C (Nat.le_of_ble_eq_true rfl) ly_51 fk_RX10_75 rfl tyX10 tyX10_ok nmX10 rfl (tyX10_ok 0 (Nat.le_of_ble_eq_true rfl)) dX10_fan_17 rfl ?_
    refine x_iconst (q := 21) (z := 0) C dX10_fan_20 rfl rfl ?_
    refine x_istore_n (q := 22) (i := 1) (lv' := [(0, .ref (ad 51)), (1, .int (iI 0))]) C dX10_fan_21 rfl (Nat.le_of_ble_eq_true rfl) [1, 0] rfl rfl ?_
    obtain ⟨I4, ⟨n04, h04⟩, hs4⟩ := h
    have L4 : ∀ (n4 : Nat) (v1_4 : Int) (σ4 : GS), I4 n4 v1_4 σ4 → V p l e rm_X10_fan s m args below meth c ad D cI cZ cG (Aw ad) 2 0 0 (MQ below (QI ad D cI cZ cG Post) args s 0 0 (Aw ad)) σ4 22 [(0, .ref (ad 51)), (1, .int (iI v1_4))] [] := by
      intro n4
      induction n4 using Nat.strongRecOn with
      | ind n4 ih4 =>
        intro v1_4 σ4 h
        have h := hs4 n4 v1_4 σ4 h
        refine x_iload_n (q := 23) (i := 1) C dX10_fan_22 rfl 1 rfl rfl ?_
        refine x_bipush (q := 25) (z := 6) C dX10_fan_23 rfl rfl ?_
        obtain ⟨o5, h⟩ := h
        refine x_icmp_ge (q := 28) (tgt := 46) C dX10_fan_25 rfl ⟨o5, by decide⟩ rfl (fun c6 => ?_) (fun c6 => ?_)
        · have h := h.1 c6
          refine x_iconst (q := 47) (z := 0) C dX10_fan_46 rfl rfl ?_
          refine x_istore_n (q := 48) (i := 1) (lv' := [(0, .ref (ad 51)), (1, .int (iI 0))]) C dX10_fan_47 rfl (Nat.le_of_ble_eq_true rfl) [1, 0] rfl rfl ?_
          obtain ⟨I7, ⟨n07, h07⟩, hs7⟩ := h
          have L7 : ∀ (n7 : Nat) (v1_7 : Int) (σ7 : GS), I7 n7 v1_7 σ7 → V p l e rm_X10_fan s m args below meth c ad D cI cZ cG (Aw ad) 2 0 0 (MQ below (QI ad D cI cZ cG Post) args s 0 0 (Aw ad)) σ7 48 [(0, .ref (ad 51)), (1, .int (iI v1_7))] [] := by
            intro n7
            induction n7 using Nat.strongRecOn with
            | ind n7 ih7 =>
              intro v1_7 σ7 h
              have h := hs7 n7 v1_7 σ7 h
              refine x_iload_n (q := 49) (i := 1) C dX10_fan_48 rfl 1 rfl rfl ?_
              refine x_bipush (q := 51) (z := 48) C dX10_fan_49 rfl rfl ?_
              obtain ⟨o8, h⟩ := h
              refine x_icmp_ge (q := 54) (tgt := 72) C dX10_fan_51 rfl ⟨o8, by decide⟩ rfl (fun c9 => ?_) (fun c9 => ?_)
              · have h := h.1 c9
                refine x_iconst (q := 73) (z := 0) C dX10_fan_72 rfl rfl ?_
                refine x_istore_n (q := 74) (i := 1) (lv' := [(0, .ref (ad 51)), (1, .int (iI 0))]) C dX10_fan_73 rfl (Nat.le_of_ble_eq_true rfl) [1, 0] rfl rfl ?_
                obtain ⟨I10, ⟨n010, h010⟩, hs10⟩ := h
                have L10 : ∀ (n10 : Nat) (v1_10 : Int) (σ10 : GS), I10 n10 v1_10 σ10 → V p l e rm_X10_fan s m args below meth c ad D cI cZ cG (Aw ad) 2 0 0 (MQ below (QI ad D cI cZ cG Post) args s 0 0 (Aw ad)) σ10 74 [(0, .ref (ad 51)), (1, .int (iI v1_10))] [] := by
                  intro n10
                  induction n10 using Nat.strongRecOn with
                  | ind n10 ih10 =>
                    intro v1_10 σ10 h
                    have h := hs10 n10 v1_10 σ10 h
                    refine x_iload_n (q := 75) (i := 1) C dX10_fan_74 rfl 1 rfl rfl ?_
                    refine x_iconst (q := 76) (z := 5) C dX10_fan_75 rfl rfl ?_
                    obtain ⟨o11, h⟩ := h
                    refine x_icmp_ge (q := 79) (tgt := 92) C dX10_fan_76 rfl ⟨o11, by decide⟩ rfl (fun c12 => ?_) (fun c12 => ?_)
                    · have h := h.1 c12
                      refine x_aload_n (q := 93) (i := 0) C dX10_fan_92 rfl 0 rfl rfl ?_
                      refine x_iconst (q := 94) (z := 0) C dX10_fan_93 rfl rfl ?_
                      refine x_putI (q := 97) C (Nat.le_of_ble_eq_true rfl) ly_51 fk_RX10_78 rfl tyX10 tyX10_ok nmX10 rfl (tyX10_ok 11 (Nat.le_of_ble_eq_true rfl)) dX10_fan_94 rfl ?_
                      refine x_aload_n (q := 98) (i := 0) C dX10_fan_97 rfl 0 rfl rfl ?_
                      refine x_getR (q := 101) (c0 := 63) C (Nat.le_of_ble_eq_true rfl) ly_51 fk_RX10_43 rfl dX10_fan_98 rfl ?_
                      refine x_iconst (q := 102) (z := 0) C dX10_fan_101 rfl rfl ?_
                      refine x_iconst (q := 103) (z := 0) C dX10_fan_102 rfl rfl ?_
                      refine x_bast (q := 104) C (Nat.le_of_ble_eq_true rfl) ly_63 dX10_fan_103 ⟨by decide, by decide⟩ (Nat.le_of_ble_eq_true rfl) (by decide) rfl ?_
                      refine x_aload_n (q := 105) (i := 0) C dX10_fan_104 rfl 0 rfl rfl ?_
                      refine x_getR (q := 108) (c0 := 63) C (Nat.le_of_ble_eq_true rfl) ly_51 fk_RX10_43 rfl dX10_fan_105 rfl ?_
                      refine x_iconst (q := 109) (z := 1) C dX10_fan_108 rfl rfl ?_
                      refine x_iconst (q := 110) (z := 0) C dX10_fan_109 rfl rfl ?_
                      refine x_bast (q := 111) C (Nat.le_of_ble_eq_true rfl) ly_63 dX10_fan_110 ⟨by decide, by decide⟩ (Nat.le_of_ble_eq_true rfl) (by decide) rfl ?_
                      refine x_aload_n (q := 112) (i := 0) C dX10_fan_111 rfl 0 rfl rfl ?_
                      refine x_getI (q := 115) C (Nat.le_of_ble_eq_true rfl) ly_51 fk_RX10_75 rfl dX10_fan_112 rfl ?_
                      exact x_iret C dX10_fan_115 h
                    · have h := h.2 c12
                      refine x_aload_n (q := 80) (i := 0) C dX10_fan_79 rfl 0 rfl rfl ?_
                      refine x_getR (q := 83) (c0 := 54) C (Nat.le_of_ble_eq_true rfl) ly_51 fk_RX10_16 rfl dX10_fan_80 rfl ?_
                      refine x_iload_n (q := 84) (i := 1) C dX10_fan_83 rfl 1 rfl rfl ?_
                      refine x_iconst (q := 85) (z := 0) C dX10_fan_84 rfl rfl ?_
                      obtain ⟨o13, h⟩ := h
                      refine x_iast (q := 86) C (Nat.le_of_ble_eq_true rfl) ly_54 dX10_fan_85 (ix o13 rfl) (Nat.le_of_ble_eq_true rfl)  rfl ?_
                      refine x_iinc (q := 89) (z' := v1_10 + 1) (lv' := [(0, .ref (ad 51)), (1, .int (iI (v1_10 + 1)))]) C dX10_fan_86 1 rfl rfl (Nat.le_of_ble_eq_true rfl) [1, 0] rfl rfl ?_
                      refine x_goto (tgt := 74) C dX10_fan_89 rfl ?_
                      obtain ⟨n14, hl15, h⟩ := h
                      refine x_sub [0, 1] rfl ?_
                      exact ih10 n14 hl15 _ _ h
                exact L10 n010 0 σ7 h010
              · have h := h.2 c9
                refine x_aload_n (q := 55) (i := 0) C dX10_fan_54 rfl 0 rfl rfl ?_
                refine x_getR (q := 58) (c0 := 53) C (Nat.le_of_ble_eq_true rfl) ly_51 fk_RX10_13 rfl dX10_fan_55 rfl ?_
                refine x_iload_n (q := 59) (i := 1) C dX10_fan_58 rfl 1 rfl rfl ?_
                refine x_aload_n (q := 60) (i := 0) C dX10_fan_59 rfl 0 rfl rfl ?_
                refine x_getR (q := 63) (c0 := 56) C (Nat.le_of_ble_eq_true rfl) ly_51 fk_RX10_22 rfl dX10_fan_60 rfl ?_
                refine x_iload_n (q := 64) (i := 1) C dX10_fan_63 rfl 1 rfl rfl ?_
                obtain ⟨o16, h⟩ := h
                refine x_iald (q := 65) C (Nat.le_of_ble_eq_true rfl) ly_56 dX10_fan_64 (ix o16 rfl) (Nat.le_of_ble_eq_true rfl) rfl ?_
                refine x_iast (q := 66) C (Nat.le_of_ble_eq_true rfl) ly_53 dX10_fan_65 (ix o16 rfl) (Nat.le_of_ble_eq_true rfl)  rfl ?_
                refine x_iinc (q := 69) (z' := v1_7 + 1) (lv' := [(0, .ref (ad 51)), (1, .int (iI (v1_7 + 1)))]) C dX10_fan_66 1 rfl rfl (Nat.le_of_ble_eq_true rfl) [1, 0] rfl rfl ?_
                refine x_goto (tgt := 48) C dX10_fan_69 rfl ?_
                obtain ⟨n17, hl18, h⟩ := h
                refine x_sub [0, 1] rfl ?_
                exact ih7 n17 hl18 _ _ h
          exact L7 n07 0 σ4 h07
        · have h := h.2 c6
          refine x_aload_n (q := 29) (i := 0) C dX10_fan_28 rfl 0 rfl rfl ?_
          refine x_getR (q := 32) (c0 := 52) C (Nat.le_of_ble_eq_true rfl) ly_51 fk_RX10_7 rfl dX10_fan_29 rfl ?_
          refine x_iload_n (q := 33) (i := 1) C dX10_fan_32 rfl 1 rfl rfl ?_
          refine x_aload_n (q := 34) (i := 0) C dX10_fan_33 rfl 0 rfl rfl ?_
          refine x_getR (q := 37) (c0 := 55) C (Nat.le_of_ble_eq_true rfl) ly_51 fk_RX10_19 rfl dX10_fan_34 rfl ?_
          refine x_iload_n (q := 38) (i := 1) C dX10_fan_37 rfl 1 rfl rfl ?_
          obtain ⟨o19, h⟩ := h
          refine x_iald (q := 39) C (Nat.le_of_ble_eq_true rfl) ly_55 dX10_fan_38 (ix o19 rfl) (Nat.le_of_ble_eq_true rfl) rfl ?_
          refine x_iast (q := 40) C (Nat.le_of_ble_eq_true rfl) ly_52 dX10_fan_39 (ix o19 rfl) (Nat.le_of_ble_eq_true rfl)  rfl ?_
          refine x_iinc (q := 43) (z' := v1_4 + 1) (lv' := [(0, .ref (ad 51)), (1, .int (iI (v1_4 + 1)))]) C dX10_fan_40 1 rfl rfl (Nat.le_of_ble_eq_true rfl) [1, 0] rfl rfl ?_
          refine x_goto (tgt := 22) C dX10_fan_43 rfl ?_
          obtain ⟨n20, hl21, h⟩ := h
          refine x_sub [0, 1] rfl ?_
          exact ih4 n20 hl21 _ _ h
    exact L4 n04 0 (up2 σ1 51 0 (σ1 51 6)) h04
  · have h := h.2 c3
    refine x_bipush (q := 11) (z := (-3)) C dX10_fan_9 rfl rfl ?_
    exact x_iret C dX10_fan_11 h
abbrev rm_X10_isBlade : Room := { frames := 1, cells := 0, slots := 0, locals := 25 }
def vc_X10_isBlade (σ : GS) (a0 : Int) (Post : Int → Prop) : Prop :=
  (rg a0) ∧
  ((rg ((σ 51 0) - 1)) ∧
  (vc_X10_in σ a0 0 ((σ 51 0) - 1) (fun (z3 : Int) =>
    (z3 = 0 ∨ z3 = 1) ∧
  (Post z3))))
set_option maxHeartbeats 4000000 in
set_option maxRecDepth 10000 in
theorem m_X10_isBlade (l : Launch) {ad : Nat → Nat} {D : va_G} {cI cZ cG : ClassId} (hI : Ij ad) {σ : GS} {a0 : Int} {Post : Int → Prop} (h : vc_X10_isBlade σ a0 Post) : Met l yX10_isBlade (wX yX10_isBlade cX10_isBlade 2 (some .boolean)) rm_X10_isBlade (va_Pc [.ref (ad 51), .int (iI a0)] (Wd ad D cI cZ cG σ)) (QI ad D cI cZ cG (fun z u => u = σ ∧ Post z)) 0 0 (Aw ad) := by
  refine met_V (own := RX10) hI (by decide +kernel) rfl (Nat.le_of_ble_eq_true rfl) ?_
  intro p e s m args below meth c C
  unfold vc_X10_isBlade at h
  show V p l e rm_X10_isBlade s m args below meth c ad D cI cZ cG (Aw ad) 2 0 0 (MQ below (QI ad D cI cZ cG (fun z u => u = σ ∧ Post z)) args s 0 0 (Aw ad)) σ 0 [(0, .ref (ad 51)), (1, .int (iI a0))] []
  refine x_iload_n (q := 1) (i := 1) C dX10_isBlade_0 rfl 1 rfl rfl ?_
  obtain ⟨o1, h⟩ := h
  refine x_i2l (q := 2) C dX10_isBlade_1 o1 rfl ?_
  refine x_lconst (q := 3) (z := 0) C dX10_isBlade_2 rfl rfl ?_
  refine x_aload_n (q := 4) (i := 0) C dX10_isBlade_3 rfl 0 rfl rfl ?_
  refine x_getI (q := 7) C (Nat.le_of_ble_eq_true rfl) ly_51 fk_RX10_75 rfl dX10_isBlade_4 rfl ?_
  refine x_iconst (q := 8) (z := 1) C dX10_isBlade_7 rfl rfl ?_
  refine x_isub (q := 9) C dX10_isBlade_8  rfl ?_
  obtain ⟨o2, h⟩ := h
  refine x_i2l (q := 10) C dX10_isBlade_9 o2 rfl ?_
  refine x_staI (q := 13) C ck_RX10_52 t4_33 (m_X10_in l hI h) ⟨⟨rfl, rfl⟩, ⟨Nat.le_of_ble_eq_true rfl, Nat.le_of_ble_eq_true rfl⟩, ⟨Nat.zero_le _, Nat.zero_le _⟩⟩ dX10_isBlade_10 rfl rfl (Nat.le_of_ble_eq_true rfl) rfl (fun z3 σ3 h => ?_)
  rw [h.1]
  have h := h.2
  obtain ⟨o4, h⟩ := h
  exact x_zret C dX10_isBlade_13 o4 ⟨rfl, h⟩
abbrev rm_X10_gapMany : Room := { frames := 0, cells := 0, slots := 0, locals := 0 }
def vc_X10_gapMany (σ : GS)  (Post : Int → Prop) : Prop :=
  (rg (σ 51 0)) ∧
  ((¬ (σ 51 0) = 0 →
    (Post ((σ 51 0) - 1))) ∧
  ((σ 51 0) = 0 →
    (Post 0)))
set_option maxHeartbeats 4000000 in
set_option maxRecDepth 10000 in
theorem m_X10_gapMany (l : Launch) {ad : Nat → Nat} {D : va_G} {cI cZ cG : ClassId} (hI : Ij ad) {σ : GS}  {Post : Int → Prop} (h : vc_X10_gapMany σ  Post) : Met l yX10_gapMany (wX yX10_gapMany cX10_gapMany 1 (some .int)) rm_X10_gapMany (va_Pc [.ref (ad 51)] (Wd ad D cI cZ cG σ)) (QI ad D cI cZ cG (fun z u => u = σ ∧ Post z)) 0 0 (Aw ad) := by
  refine met_V (own := RX10) hI (by decide +kernel) rfl (Nat.le_of_ble_eq_true rfl) ?_
  intro p e s m args below meth c C
  unfold vc_X10_gapMany at h
  show V p l e rm_X10_gapMany s m args below meth c ad D cI cZ cG (Aw ad) 1 0 0 (MQ below (QI ad D cI cZ cG (fun z u => u = σ ∧ Post z)) args s 0 0 (Aw ad)) σ 0 [(0, .ref (ad 51))] []
  refine x_aload_n (q := 1) (i := 0) C dX10_gapMany_0 rfl 0 rfl rfl ?_
  refine x_getI (q := 4) C (Nat.le_of_ble_eq_true rfl) ly_51 fk_RX10_75 rfl dX10_gapMany_1 rfl ?_
  obtain ⟨o1, h⟩ := h
  refine x_if_ne (q := 7) (tgt := 11) C dX10_gapMany_4 rfl o1 rfl (fun c2 => ?_) (fun c2 => ?_)
  · have h := h.1 c2
    refine x_aload_n (q := 12) (i := 0) C dX10_gapMany_11 rfl 0 rfl rfl ?_
    refine x_getI (q := 15) C (Nat.le_of_ble_eq_true rfl) ly_51 fk_RX10_75 rfl dX10_gapMany_12 rfl ?_
    refine x_iconst (q := 16) (z := 1) C dX10_gapMany_15 rfl rfl ?_
    refine x_isub (q := 17) C dX10_gapMany_16  rfl ?_
    exact x_iret C dX10_gapMany_17 ⟨rfl, h⟩
  · have h := h.2 c2
    refine x_iconst (q := 8) (z := 0) C dX10_gapMany_7 rfl rfl ?_
    refine x_goto (tgt := 17) C dX10_gapMany_8 rfl ?_
    exact x_iret C dX10_gapMany_17 ⟨rfl, h⟩
abbrev rm_X10_isGap : Room := { frames := 1, cells := 0, slots := 0, locals := 25 }
def vc_X10_isGap (σ : GS) (a0 : Int) (Post : Int → Prop) : Prop :=
  (rg a0) ∧
  (vc_X10_gapMany σ  (fun (z2 : Int) =>
    (rg (z2 - 1)) ∧
  (vc_X10_in σ a0 0 (z2 - 1) (fun (z4 : Int) =>
    (z4 = 0 ∨ z4 = 1) ∧
  (Post z4)))))
set_option maxHeartbeats 4000000 in
set_option maxRecDepth 10000 in
theorem m_X10_isGap (l : Launch) {ad : Nat → Nat} {D : va_G} {cI cZ cG : ClassId} (hI : Ij ad) {σ : GS} {a0 : Int} {Post : Int → Prop} (h : vc_X10_isGap σ a0 Post) : Met l yX10_isGap (wX yX10_isGap cX10_isGap 2 (some .boolean)) rm_X10_isGap (va_Pc [.ref (ad 51), .int (iI a0)] (Wd ad D cI cZ cG σ)) (QI ad D cI cZ cG (fun z u => u = σ ∧ Post z)) 0 0 (Aw ad) := by
  refine met_V (own := RX10) hI (by decide +kernel) rfl (Nat.le_of_ble_eq_true rfl) ?_
  intro p e s m args below meth c C
  unfold vc_X10_isGap at h
  show V p l e rm_X10_isGap s m args below meth c ad D cI cZ cG (Aw ad) 2 0 0 (MQ below (QI ad D cI cZ cG (fun z u => u = σ ∧ Post z)) args s 0 0 (Aw ad)) σ 0 [(0, .ref (ad 51)), (1, .int (iI a0))] []
  refine x_iload_n (q := 1) (i := 1) C dX10_isGap_0 rfl 1 rfl rfl ?_
  obtain ⟨o1, h⟩ := h
  refine x_i2l (q := 2) C dX10_isGap_1 o1 rfl ?_
  refine x_lconst (q := 3) (z := 0) C dX10_isGap_2 rfl rfl ?_
  refine x_aload_n (q := 4) (i := 0) C dX10_isGap_3 rfl 0 rfl rfl ?_
  refine x_virI (q := 7) C (Nat.le_of_ble_eq_true rfl) ly_51 rfl ck_RX10_81 vk_X10_gapMany (m_X10_gapMany l hI h) ⟨⟨rfl, rfl⟩, ⟨Nat.le_of_ble_eq_true rfl, Nat.le_of_ble_eq_true rfl⟩, ⟨Nat.zero_le _, Nat.zero_le _⟩⟩ dX10_isGap_4 rfl rfl (Nat.le_of_ble_eq_true rfl) rfl (fun z2 σ2 h => ?_)
  rw [h.1]
  have h := h.2
  refine x_iconst (q := 8) (z := 1) C dX10_isGap_7 rfl rfl ?_
  refine x_isub (q := 9) C dX10_isGap_8  rfl ?_
  obtain ⟨o3, h⟩ := h
  refine x_i2l (q := 10) C dX10_isGap_9 o3 rfl ?_
  refine x_staI (q := 13) C ck_RX10_52 t4_33 (m_X10_in l hI h) ⟨⟨rfl, rfl⟩, ⟨Nat.le_of_ble_eq_true rfl, Nat.le_of_ble_eq_true rfl⟩, ⟨Nat.zero_le _, Nat.zero_le _⟩⟩ dX10_isGap_10 rfl rfl (Nat.le_of_ble_eq_true rfl) rfl (fun z4 σ4 h => ?_)
  rw [h.1]
  have h := h.2
  obtain ⟨o5, h⟩ := h
  exact x_zret C dX10_isGap_13 o5 ⟨rfl, h⟩
abbrev rm_X10_isFree : Room := { frames := 0, cells := 0, slots := 0, locals := 0 }
def vc_X10_isFree (σ : GS) (a0 : Int) (Post : Int → Prop) : Prop :=
  (0 ≤ a0 ∧ a0 < 6) ∧
  ((rg (σ 52 a0.toNat)) ∧
  (((σ 52 a0.toNat) = 3 →
    (Post 0)) ∧
  (¬ (σ 52 a0.toNat) = 3 →
    (Post 1))))
set_option maxHeartbeats 4000000 in
set_option maxRecDepth 10000 in
theorem m_X10_isFree (l : Launch) {ad : Nat → Nat} {D : va_G} {cI cZ cG : ClassId} (hI : Ij ad) {σ : GS} {a0 : Int} {Post : Int → Prop} (h : vc_X10_isFree σ a0 Post) : Met l yX10_isFree (wX yX10_isFree cX10_isFree 2 (some .boolean)) rm_X10_isFree (va_Pc [.ref (ad 51), .int (iI a0)] (Wd ad D cI cZ cG σ)) (QI ad D cI cZ cG (fun z u => u = σ ∧ Post z)) 0 0 (Aw ad) := by
  refine met_V (own := RX10) hI (by decide +kernel) rfl (Nat.le_of_ble_eq_true rfl) ?_
  intro p e s m args below meth c C
  unfold vc_X10_isFree at h
  show V p l e rm_X10_isFree s m args below meth c ad D cI cZ cG (Aw ad) 2 0 0 (MQ below (QI ad D cI cZ cG (fun z u => u = σ ∧ Post z)) args s 0 0 (Aw ad)) σ 0 [(0, .ref (ad 51)), (1, .int (iI a0))] []
  refine x_aload_n (q := 1) (i := 0) C dX10_isFree_0 rfl 0 rfl rfl ?_
  refine x_getR (q := 4) (c0 := 52) C (Nat.le_of_ble_eq_true rfl) ly_51 fk_RX10_7 rfl dX10_isFree_1 rfl ?_
  refine x_iload_n (q := 5) (i := 1) C dX10_isFree_4 rfl 1 rfl rfl ?_
  obtain ⟨o1, h⟩ := h
  refine x_iald (q := 6) C (Nat.le_of_ble_eq_true rfl) ly_52 dX10_isFree_5 (ix o1 rfl) (Nat.le_of_ble_eq_true rfl) rfl ?_
  refine x_iconst (q := 7) (z := 3) C dX10_isFree_6 rfl rfl ?_
  obtain ⟨o2, h⟩ := h
  refine x_icmp_eq (q := 10) (tgt := 14) C dX10_isFree_7 rfl ⟨o2, by decide⟩ rfl (fun c3 => ?_) (fun c3 => ?_)
  · have h := h.1 c3
    refine x_iconst (q := 15) (z := 0) C dX10_isFree_14 rfl rfl ?_
    exact x_zret C dX10_isFree_15 (by decide) ⟨rfl, h⟩
  · have h := h.2 c3
    refine x_iconst (q := 11) (z := 1) C dX10_isFree_10 rfl rfl ?_
    refine x_goto (tgt := 15) C dX10_isFree_11 rfl ?_
    exact x_zret C dX10_isFree_15 (by decide) ⟨rfl, h⟩
abbrev rm_X10_hundredTo : Room := { frames := 0, cells := 0, slots := 0, locals := 0 }
def vc_X10_hundredTo (σ : GS) (a0 : Int) (Post : Int → Prop) : Prop :=
  ∃ I1 : Nat → Int → Int → Prop, (∃ n : Nat, I1 n 1 0) ∧ ∀ (n1 : Nat) (v1_1 : Int) (v3_1 : Int), I1 n1 v1_1 v3_1 →
  ((rg v3_1) ∧
      ((rg a0) ∧
      ((a0 ≤ v3_1 →
        (Post v1_1)) ∧
      (¬ a0 ≤ v3_1 →
        (∃ n' : Nat, n' < n1 ∧ I1 n' (v1_1 * 100) (v3_1 + 1))))))
set_option maxHeartbeats 4000000 in
set_option maxRecDepth 10000 in
theorem m_X10_hundredTo (l : Launch) {ad : Nat → Nat} {D : va_G} {cI cZ cG : ClassId} (hI : Ij ad) {σ : GS} {a0 : Int} {Post : Int → Prop} (h : vc_X10_hundredTo σ a0 Post) : Met l yX10_hundredTo (wX yX10_hundredTo cX10_hundredTo 4 (some .long)) rm_X10_hundredTo (va_Pc [.int (iI a0)] (Wd ad D cI cZ cG σ)) (QL ad D cI cZ cG (fun z u => u = σ ∧ Post z)) 0 0 (Aw ad) := by
  refine met_V (own := RX10) hI (by decide +kernel) rfl (Nat.le_of_ble_eq_true rfl) ?_
  intro p e s m args below meth c C
  unfold vc_X10_hundredTo at h
  show V p l e rm_X10_hundredTo s m args below meth c ad D cI cZ cG (Aw ad) 4 0 0 (MQ below (QL ad D cI cZ cG (fun z u => u = σ ∧ Post z)) args s 0 0 (Aw ad)) σ 0 [(0, .int (iI a0))] []
  refine x_lconst (q := 1) (z := 1) C dX10_hundredTo_0 rfl rfl ?_
  refine x_lstore_n (q := 2) (i := 1) (lv' := [(0, .int (iI a0)), (1, .long (lI 1))]) C dX10_hundredTo_1 rfl (Nat.le_of_ble_eq_true rfl) [1, 0] rfl rfl ?_
  refine x_iconst (q := 3) (z := 0) C dX10_hundredTo_2 rfl rfl ?_
  refine x_istore_n (q := 4) (i := 3) (lv' := [(0, .int (iI a0)), (1, .long (lI 1)), (3, .int (iI 0))]) C dX10_hundredTo_3 rfl (Nat.le_of_ble_eq_true rfl) [1, 2, 0] rfl rfl ?_
  obtain ⟨I1, ⟨n01, h01⟩, hs1⟩ := h
  have L1 : ∀ (n1 : Nat) (v1_1 : Int) (v3_1 : Int), I1 n1 v1_1 v3_1 → V p l e rm_X10_hundredTo s m args below meth c ad D cI cZ cG (Aw ad) 4 0 0 (MQ below (QL ad D cI cZ cG (fun z u => u = σ ∧ Post z)) args s 0 0 (Aw ad)) σ 4 [(0, .int (iI a0)), (1, .long (lI v1_1)), (3, .int (iI v3_1))] [] := by
    intro n1
    induction n1 using Nat.strongRecOn with
    | ind n1 ih1 =>
      intro v1_1 v3_1 h
      have h := hs1 n1 v1_1 v3_1 h
      refine x_iload_n (q := 5) (i := 3) C dX10_hundredTo_4 rfl 2 rfl rfl ?_
      refine x_iload_n (q := 6) (i := 0) C dX10_hundredTo_5 rfl 0 rfl rfl ?_
      obtain ⟨o2, h⟩ := h
      obtain ⟨o3, h⟩ := h
      refine x_icmp_ge (q := 9) (tgt := 21) C dX10_hundredTo_6 rfl ⟨o2, o3⟩ rfl (fun c4 => ?_) (fun c4 => ?_)
      · have h := h.1 c4
        refine x_lload_n (q := 22) (i := 1) C dX10_hundredTo_21 rfl 1 rfl rfl ?_
        exact x_lret C dX10_hundredTo_22 ⟨rfl, h⟩
      · have h := h.2 c4
        refine x_lload_n (q := 10) (i := 1) C dX10_hundredTo_9 rfl 1 rfl rfl ?_
        refine x_ldc2 (q := 13) (z := 100) C dX10_hundredTo_10 t4_63 rfl rfl ?_
        refine x_lmul (q := 14) C dX10_hundredTo_13  rfl ?_
        refine x_lstore_n (q := 15) (i := 1) (lv' := [(0, .int (iI a0)), (1, .long (lI (v1_1 * 100))), (3, .int (iI v3_1))]) C dX10_hundredTo_14 rfl (Nat.le_of_ble_eq_true rfl) [1, 0, 2] rfl rfl ?_
        refine x_iinc (q := 18) (z' := v3_1 + 1) (lv' := [(0, .int (iI a0)), (1, .long (lI (v1_1 * 100))), (3, .int (iI (v3_1 + 1)))]) C dX10_hundredTo_15 2 rfl rfl (Nat.le_of_ble_eq_true rfl) [1, 2, 0] rfl rfl ?_
        refine x_goto (tgt := 4) C dX10_hundredTo_18 rfl ?_
        obtain ⟨n5, hl6, h⟩ := h
        refine x_sub [0, 1, 2] rfl ?_
        exact ih1 n5 hl6 _ _ h
  exact L1 n01 1 0 h01
abbrev rm_X10_word : Room := { frames := 1, cells := 0, slots := 0, locals := 25 }
def vc_X10_word (σ : GS) (a0 : Int) (a1 : Int) (Post : Int → GS → Prop) : Prop :=
  (rg a0) ∧
  (vc_X10_in σ a0 0 5 (fun (z2 : Int) =>
    (rg z2) ∧
  ((z2 = 0 →
    (Post (-2) σ)) ∧
  (¬ z2 = 0 →
    (vc_X10_hundredTo σ a0 (fun (z5 : Int) =>
      vc_X10_in σ a1 0 (z5 - 1) (fun (z6 : Int) =>
      (rg z6) ∧
    ((¬ z6 = 0 →
      (∃ I9 : Nat → Int → Prop, (∃ n : Nat, I9 n 0) ∧ ∀ (n9 : Nat) (v4_9 : Int), I9 n9 v4_9 →
      ((rg v4_9) ∧
          ((a0 ≤ v4_9 →
            (∃ I12 : Nat → Int → GS → Prop, (∃ n : Nat, I12 n 0 (up2 σ 51 9 a0)) ∧ ∀ (n12 : Nat) (v5_12 : Int) (σ12 : GS), I12 n12 v5_12 σ12 →
            ((rg v5_12) ∧
                ((a0 ≤ v5_12 →
                  (Post (σ 51 9) σ12)) ∧
                (¬ a0 ≤ v5_12 →
                  (vc_X10_hundredTo σ12 ((a0 - 1) - v5_12) (fun (z15 : Int) =>
                    ((0 ≤ a1 ∧ a1 ≤ 9223372036854775807) ∧ (0 < z15 ∧ z15 ≤ 9223372036854775807)) ∧
                  ((0 ≤ (a1 / z15) ∧ (a1 / z15) ≤ 9223372036854775807) ∧
                  ((0 ≤ v5_12 ∧ v5_12 < 5) ∧
                  (∃ n' : Nat, n' < n12 ∧ I12 n' (v5_12 + 1) (up2 σ12 58 v5_12.toNat ((a1 / z15) % 100)))))))))))) ∧
          (¬ a0 ≤ v4_9 →
            (vc_X10_hundredTo σ v4_9 (fun (z21 : Int) =>
              ((0 ≤ a1 ∧ a1 ≤ 9223372036854775807) ∧ (0 < z21 ∧ z21 ≤ 9223372036854775807)) ∧
            ((0 ≤ (a1 / z21) ∧ (a1 / z21) ≤ 9223372036854775807) ∧
            ((rg (lc ((a1 / z21) % 100) 25)) ∧
            (((lc ((a1 / z21) % 100) 25) ≤ 0 →
              (∃ n' : Nat, n' < n9 ∧ I9 n' (v4_9 + 1))) ∧
            (¬ (lc ((a1 / z21) % 100) 25) ≤ 0 →
              (Post (-2) σ)))))))))))) ∧
    (z6 = 0 →
      (Post (-2) σ))))))))))
set_option maxHeartbeats 4000000 in
set_option maxRecDepth 10000 in
theorem m_X10_word (l : Launch) {ad : Nat → Nat} {D : va_G} {cI cZ cG : ClassId} (hI : Ij ad) {σ : GS} {a0 : Int} {a1 : Int} {Post : Int → GS → Prop} (h : vc_X10_word σ a0 a1 Post) : Met l yX10_word (wX yX10_word cX10_word 6 (some .int)) rm_X10_word (va_Pc [.ref (ad 51), .int (iI a0), .long (lI a1)] (Wd ad D cI cZ cG σ)) (QI ad D cI cZ cG Post) 0 0 (Aw ad) := by
  refine met_V (own := RX10) hI (by decide +kernel) rfl (Nat.le_of_ble_eq_true rfl) ?_
  intro p e s m args below meth c C
  unfold vc_X10_word at h
  show V p l e rm_X10_word s m args below meth c ad D cI cZ cG (Aw ad) 6 0 0 (MQ below (QI ad D cI cZ cG Post) args s 0 0 (Aw ad)) σ 0 [(0, .ref (ad 51)), (1, .int (iI a0)), (2, .long (lI a1))] []
  refine x_iload_n (q := 1) (i := 1) C dX10_word_0 rfl 1 rfl rfl ?_
  obtain ⟨o1, h⟩ := h
  refine x_i2l (q := 2) C dX10_word_1 o1 rfl ?_
  refine x_lconst (q := 3) (z := 0) C dX10_word_2 rfl rfl ?_
  refine x_ldc2 (q := 6) (z := 5) C dX10_word_3 t4_59 rfl rfl ?_
  refine x_staI (q := 9) C ck_RX10_52 t4_33 (m_X10_in l hI h) ⟨⟨rfl, rfl⟩, ⟨Nat.le_of_ble_eq_true rfl, Nat.le_of_ble_eq_true rfl⟩, ⟨Nat.zero_le _, Nat.zero_le _⟩⟩ dX10_word_6 rfl rfl (Nat.le_of_ble_eq_true rfl) rfl (fun z2 σ2 h => ?_)
  rw [h.1]
  have h := h.2
  obtain ⟨o3, h⟩ := h
  refine x_if_eq (q := 12) (tgt := 26) C dX10_word_9 rfl o3 rfl (fun c4 => ?_) (fun c4 => ?_)
  · have h := h.1 c4
    refine x_bipush (q := 28) (z := (-2)) C dX10_word_26 rfl rfl ?_
    exact x_iret C dX10_word_28 h
  · have h := h.2 c4
    refine x_lload_n (q := 13) (i := 2) C dX10_word_12 rfl 2 rfl rfl ?_
    refine x_lconst (q := 14) (z := 0) C dX10_word_13 rfl rfl ?_
    refine x_iload_n (q := 15) (i := 1) C dX10_word_14 rfl 1 rfl rfl ?_
    refine x_staL (q := 18) C ck_RX10_88 t4_61 (m_X10_hundredTo l hI h) ⟨⟨rfl, rfl⟩, ⟨Nat.le_of_ble_eq_true rfl, Nat.le_of_ble_eq_true rfl⟩, ⟨Nat.zero_le _, Nat.zero_le _⟩⟩ dX10_word_15 rfl rfl (Nat.le_of_ble_eq_true rfl) rfl (fun z5 σ5 h => ?_)
    rw [h.1]
    have h := h.2
    refine x_lconst (q := 19) (z := 1) C dX10_word_18 rfl rfl ?_
    refine x_lsub (q := 20) C dX10_word_19  rfl ?_
    refine x_staI (q := 23) C ck_RX10_52 t4_33 (m_X10_in l hI h) ⟨⟨rfl, rfl⟩, ⟨Nat.le_of_ble_eq_true rfl, Nat.le_of_ble_eq_true rfl⟩, ⟨Nat.zero_le _, Nat.zero_le _⟩⟩ dX10_word_20 rfl rfl (Nat.le_of_ble_eq_true rfl) rfl (fun z6 σ6 h => ?_)
    rw [h.1]
    have h := h.2
    obtain ⟨o7, h⟩ := h
    refine x_if_ne (q := 26) (tgt := 29) C dX10_word_23 rfl o7 rfl (fun c8 => ?_) (fun c8 => ?_)
    · have h := h.1 c8
      refine x_iconst (q := 30) (z := 0) C dX10_word_29 rfl rfl ?_
      refine x_istore (q := 32) (i := 4) (lv' := [(0, .ref (ad 51)), (1, .int (iI a0)), (2, .long (lI a1)), (4, .int (iI 0))]) C dX10_word_30 (Nat.le_of_ble_eq_true rfl) [1, 2, 3, 0] rfl rfl ?_
      obtain ⟨I9, ⟨n09, h09⟩, hs9⟩ := h
      have L9 : ∀ (n9 : Nat) (v4_9 : Int), I9 n9 v4_9 → V p l e rm_X10_word s m args below meth c ad D cI cZ cG (Aw ad) 6 0 0 (MQ below (QI ad D cI cZ cG Post) args s 0 0 (Aw ad)) σ 32 [(0, .ref (ad 51)), (1, .int (iI a0)), (2, .long (lI a1)), (4, .int (iI v4_9))] [] := by
        intro n9
        induction n9 using Nat.strongRecOn with
        | ind n9 ih9 =>
          intro v4_9 h
          have h := hs9 n9 v4_9 h
          refine x_iload (q := 34) C dX10_word_32 3 rfl rfl ?_
          refine x_iload_n (q := 35) (i := 1) C dX10_word_34 rfl 1 rfl rfl ?_
          obtain ⟨o10, h⟩ := h
          refine x_icmp_ge (q := 38) (tgt := 65) C dX10_word_35 rfl ⟨o10, o1⟩ rfl (fun c11 => ?_) (fun c11 => ?_)
          · have h := h.1 c11
            refine x_aload_n (q := 66) (i := 0) C dX10_word_65 rfl 0 rfl rfl ?_
            refine x_getI (q := 69) C (Nat.le_of_ble_eq_true rfl) ly_51 fk_RX10_94 rfl dX10_word_66 rfl ?_
            refine x_istore (q := 71) (i := 4) (lv' := [(0, .ref (ad 51)), (1, .int (iI a0)), (2, .long (lI a1)), (4, .int (iI (σ 51 9)))]) C dX10_word_69 (Nat.le_of_ble_eq_true rfl) [1, 2, 3, 0] rfl rfl ?_
            refine x_aload_n (q := 72) (i := 0) C dX10_word_71 rfl 0 rfl rfl ?_
            refine x_iload_n (q := 73) (i := 1) C dX10_word_72 rfl 1 rfl rfl ?_
            refine x_putI (q := 76) C (Nat.le_of_ble_eq_true rfl) ly_51 fk_RX10_94 rfl tyX10 tyX10_ok nmX10 rfl (tyX10_ok 9 (Nat.le_of_ble_eq_true rfl)) dX10_word_73 rfl ?_
            refine x_iconst (q := 77) (z := 0) C dX10_word_76 rfl rfl ?_
            refine x_istore (q := 79) (i := 5) (lv' := [(0, .ref (ad 51)), (1, .int (iI a0)), (2, .long (lI a1)), (4, .int (iI (σ 51 9))), (5, .int (iI 0))]) C dX10_word_77 (Nat.le_of_ble_eq_true rfl) [1, 2, 3, 4, 0] rfl rfl ?_
            obtain ⟨I12, ⟨n012, h012⟩, hs12⟩ := h
            have L12 : ∀ (n12 : Nat) (v5_12 : Int) (σ12 : GS), I12 n12 v5_12 σ12 → V p l e rm_X10_word s m args below meth c ad D cI cZ cG (Aw ad) 6 0 0 (MQ below (QI ad D cI cZ cG Post) args s 0 0 (Aw ad)) σ12 79 [(0, .ref (ad 51)), (1, .int (iI a0)), (2, .long (lI a1)), (4, .int (iI (σ 51 9))), (5, .int (iI v5_12))] [] := by
              intro n12
              induction n12 using Nat.strongRecOn with
              | ind n12 ih12 =>
                intro v5_12 σ12 h
                have h := hs12 n12 v5_12 σ12 h
                refine x_iload (q := 81) C dX10_word_79 4 rfl rfl ?_
                refine x_iload_n (q := 82) (i := 1) C dX10_word_81 rfl 1 rfl rfl ?_
                obtain ⟨o13, h⟩ := h
                refine x_icmp_ge (q := 85) (tgt := 114) C dX10_word_82 rfl ⟨o13, o1⟩ rfl (fun c14 => ?_) (fun c14 => ?_)
                · have h := h.1 c14
                  refine x_iload (q := 116) C dX10_word_114 3 rfl rfl ?_
                  exact x_iret C dX10_word_116 h
                · have h := h.2 c14
                  refine x_aload_n (q := 86) (i := 0) C dX10_word_85 rfl 0 rfl rfl ?_
                  refine x_getR (q := 89) (c0 := 58) C (Nat.le_of_ble_eq_true rfl) ly_51 fk_RX10_28 rfl dX10_word_86 rfl ?_
                  refine x_iload (q := 91) C dX10_word_89 4 rfl rfl ?_
                  refine x_lload_n (q := 92) (i := 2) C dX10_word_91 rfl 2 rfl rfl ?_
                  refine x_iload_n (q := 93) (i := 1) C dX10_word_92 rfl 1 rfl rfl ?_
                  refine x_iconst (q := 94) (z := 1) C dX10_word_93 rfl rfl ?_
                  refine x_isub (q := 95) C dX10_word_94  rfl ?_
                  refine x_iload (q := 97) C dX10_word_95 4 rfl rfl ?_
                  refine x_isub (q := 98) C dX10_word_97  rfl ?_
                  refine x_staL (q := 101) C ck_RX10_88 t4_61 (m_X10_hundredTo l hI h) ⟨⟨rfl, rfl⟩, ⟨Nat.le_of_ble_eq_true rfl, Nat.le_of_ble_eq_true rfl⟩, ⟨Nat.zero_le _, Nat.zero_le _⟩⟩ dX10_word_98 rfl rfl (Nat.le_of_ble_eq_true rfl) rfl (fun z15 σ15 h => ?_)
                  rw [h.1]
                  have h := h.2
                  obtain ⟨o16, h⟩ := h
                  refine x_ldiv (q := 102) C dX10_word_101 o16 rfl ?_
                  refine x_ldc2 (q := 105) (z := 100) C dX10_word_102 t4_63 rfl rfl ?_
                  obtain ⟨o17, h⟩ := h
                  refine x_lrem (q := 106) C dX10_word_105 ⟨o17, by decide⟩ rfl ?_
                  refine x_l2i (q := 107) C dX10_word_106  rfl ?_
                  obtain ⟨o18, h⟩ := h
                  refine x_iast (q := 108) C (Nat.le_of_ble_eq_true rfl) ly_58 dX10_word_107 (ix o18 rfl) (Nat.le_of_ble_eq_true rfl)  rfl ?_
                  refine x_iinc (q := 111) (z' := v5_12 + 1) (lv' := [(0, .ref (ad 51)), (1, .int (iI a0)), (2, .long (lI a1)), (4, .int (iI (σ 51 9))), (5, .int (iI (v5_12 + 1)))]) C dX10_word_108 4 rfl rfl (Nat.le_of_ble_eq_true rfl) [1, 2, 3, 4, 0] rfl rfl ?_
                  refine x_goto (tgt := 79) C dX10_word_111 rfl ?_
                  obtain ⟨n19, hl20, h⟩ := h
                  refine x_sub [0, 1, 2, 3, 4] rfl ?_
                  exact ih12 n19 hl20 _ _ h
            exact L12 n012 0 (up2 σ 51 9 a0) h012
          · have h := h.2 c11
            refine x_lload_n (q := 39) (i := 2) C dX10_word_38 rfl 2 rfl rfl ?_
            refine x_iload (q := 41) C dX10_word_39 3 rfl rfl ?_
            refine x_staL (q := 44) C ck_RX10_88 t4_61 (m_X10_hundredTo l hI h) ⟨⟨rfl, rfl⟩, ⟨Nat.le_of_ble_eq_true rfl, Nat.le_of_ble_eq_true rfl⟩, ⟨Nat.zero_le _, Nat.zero_le _⟩⟩ dX10_word_41 rfl rfl (Nat.le_of_ble_eq_true rfl) rfl (fun z21 σ21 h => ?_)
            rw [h.1]
            have h := h.2
            obtain ⟨o22, h⟩ := h
            refine x_ldiv (q := 45) C dX10_word_44 o22 rfl ?_
            refine x_ldc2 (q := 48) (z := 100) C dX10_word_45 t4_63 rfl rfl ?_
            obtain ⟨o23, h⟩ := h
            refine x_lrem (q := 49) C dX10_word_48 ⟨o23, by decide⟩ rfl ?_
            refine x_ldc2 (q := 52) (z := 25) C dX10_word_49 t4_64 rfl rfl ?_
            refine x_lcmp (q := 53) C dX10_word_52  rfl ?_
            obtain ⟨o24, h⟩ := h
            refine x_if_le (q := 56) (tgt := 59) C dX10_word_53 rfl o24 rfl (fun c25 => ?_) (fun c25 => ?_)
            · have h := h.1 c25
              refine x_iinc (q := 62) (z' := v4_9 + 1) (lv' := [(0, .ref (ad 51)), (1, .int (iI a0)), (2, .long (lI a1)), (4, .int (iI (v4_9 + 1)))]) C dX10_word_59 3 rfl rfl (Nat.le_of_ble_eq_true rfl) [1, 2, 3, 0] rfl rfl ?_
              refine x_goto (tgt := 32) C dX10_word_62 rfl ?_
              obtain ⟨n26, hl27, h⟩ := h
              refine x_sub [0, 1, 2, 3] rfl ?_
              exact ih9 n26 hl27 _ h
            · have h := h.2 c25
              refine x_bipush (q := 58) (z := (-2)) C dX10_word_56 rfl rfl ?_
              exact x_iret C dX10_word_58 h
      exact L9 n09 0 h09
    · have h := h.2 c8
      refine x_bipush (q := 28) (z := (-2)) C dX10_word_26 rfl rfl ?_
      exact x_iret C dX10_word_28 h
abbrev rm_X10_beginOf : Room := { frames := 0, cells := 0, slots := 0, locals := 0 }
def vc_X10_beginOf (σ : GS) (a0 : Int) (a1 : Int) (Post : Int → Prop) : Prop :=
  ∃ I1 : Nat → Int → Int → Prop, (∃ n : Nat, I1 n 0 0) ∧ ∀ (n1 : Nat) (v3_1 : Int) (v4_1 : Int), I1 n1 v3_1 v4_1 →
  ((rg v4_1) ∧
      ((rg a1) ∧
      ((a1 ≤ v4_1 →
        (Post v3_1)) ∧
      (¬ a1 ≤ v4_1 →
        ((0 ≤ ((5 * a0) + v4_1) ∧ ((5 * a0) + v4_1) < 10) ∧
        (∃ n' : Nat, n' < n1 ∧ I1 n' (v3_1 + (σ 54 ((5 * a0) + v4_1).toNat)) (v4_1 + 1)))))))
set_option maxHeartbeats 4000000 in
set_option maxRecDepth 10000 in
theorem m_X10_beginOf (l : Launch) {ad : Nat → Nat} {D : va_G} {cI cZ cG : ClassId} (hI : Ij ad) {σ : GS} {a0 : Int} {a1 : Int} {Post : Int → Prop} (h : vc_X10_beginOf σ a0 a1 Post) : Met l yX10_beginOf (wX yX10_beginOf cX10_beginOf 5 (some .int)) rm_X10_beginOf (va_Pc [.ref (ad 51), .int (iI a0), .int (iI a1)] (Wd ad D cI cZ cG σ)) (QI ad D cI cZ cG (fun z u => u = σ ∧ Post z)) 0 0 (Aw ad) := by
  refine met_V (own := RX10) hI (by decide +kernel) rfl (Nat.le_of_ble_eq_true rfl) ?_
  intro p e s m args below meth c C
  unfold vc_X10_beginOf at h
  show V p l e rm_X10_beginOf s m args below meth c ad D cI cZ cG (Aw ad) 5 0 0 (MQ below (QI ad D cI cZ cG (fun z u => u = σ ∧ Post z)) args s 0 0 (Aw ad)) σ 0 [(0, .ref (ad 51)), (1, .int (iI a0)), (2, .int (iI a1))] []
  refine x_iconst (q := 1) (z := 0) C dX10_beginOf_0 rfl rfl ?_
  refine x_istore_n (q := 2) (i := 3) (lv' := [(0, .ref (ad 51)), (1, .int (iI a0)), (2, .int (iI a1)), (3, .int (iI 0))]) C dX10_beginOf_1 rfl (Nat.le_of_ble_eq_true rfl) [1, 2, 3, 0] rfl rfl ?_
  refine x_iconst (q := 3) (z := 0) C dX10_beginOf_2 rfl rfl ?_
  refine x_istore (q := 5) (i := 4) (lv' := [(0, .ref (ad 51)), (1, .int (iI a0)), (2, .int (iI a1)), (3, .int (iI 0)), (4, .int (iI 0))]) C dX10_beginOf_3 (Nat.le_of_ble_eq_true rfl) [1, 2, 3, 4, 0] rfl rfl ?_
  obtain ⟨I1, ⟨n01, h01⟩, hs1⟩ := h
  have L1 : ∀ (n1 : Nat) (v3_1 : Int) (v4_1 : Int), I1 n1 v3_1 v4_1 → V p l e rm_X10_beginOf s m args below meth c ad D cI cZ cG (Aw ad) 5 0 0 (MQ below (QI ad D cI cZ cG (fun z u => u = σ ∧ Post z)) args s 0 0 (Aw ad)) σ 5 [(0, .ref (ad 51)), (1, .int (iI a0)), (2, .int (iI a1)), (3, .int (iI v3_1)), (4, .int (iI v4_1))] [] := by
    intro n1
    induction n1 using Nat.strongRecOn with
    | ind n1 ih1 =>
      intro v3_1 v4_1 h
      have h := hs1 n1 v3_1 v4_1 h
      refine x_iload (q := 7) C dX10_beginOf_5 4 rfl rfl ?_
      refine x_iload_n (q := 8) (i := 2) C dX10_beginOf_7 rfl 2 rfl rfl ?_
      obtain ⟨o2, h⟩ := h
      obtain ⟨o3, h⟩ := h
      refine x_icmp_ge (q := 11) (tgt := 31) C dX10_beginOf_8 rfl ⟨o2, o3⟩ rfl (fun c4 => ?_) (fun c4 => ?_)
      · have h := h.1 c4
        refine x_iload_n (q := 32) (i := 3) C dX10_beginOf_31 rfl 3 rfl rfl ?_
        exact x_iret C dX10_beginOf_32 ⟨rfl, h⟩
      · have h := h.2 c4
        refine x_iload_n (q := 12) (i := 3) C dX10_beginOf_11 rfl 3 rfl rfl ?_
        refine x_aload_n (q := 13) (i := 0) C dX10_beginOf_12 rfl 0 rfl rfl ?_
        refine x_getR (q := 16) (c0 := 54) C (Nat.le_of_ble_eq_true rfl) ly_51 fk_RX10_16 rfl dX10_beginOf_13 rfl ?_
        refine x_iconst (q := 17) (z := 5) C dX10_beginOf_16 rfl rfl ?_
        refine x_iload_n (q := 18) (i := 1) C dX10_beginOf_17 rfl 1 rfl rfl ?_
        refine x_imul (q := 19) C dX10_beginOf_18  rfl ?_
        refine x_iload (q := 21) C dX10_beginOf_19 4 rfl rfl ?_
        refine x_iadd (q := 22) C dX10_beginOf_21  rfl ?_
        obtain ⟨o5, h⟩ := h
        refine x_iald (q := 23) C (Nat.le_of_ble_eq_true rfl) ly_54 dX10_beginOf_22 (ix o5 rfl) (Nat.le_of_ble_eq_true rfl) rfl ?_
        refine x_iadd (q := 24) C dX10_beginOf_23  rfl ?_
        refine x_istore_n (q := 25) (i := 3) (lv' := [(0, .ref (ad 51)), (1, .int (iI a0)), (2, .int (iI a1)), (3, .int (iI (v3_1 + (σ 54 ((5 * a0) + v4_1).toNat)))), (4, .int (iI v4_1))]) C dX10_beginOf_24 rfl (Nat.le_of_ble_eq_true rfl) [1, 2, 3, 0, 4] rfl rfl ?_
        refine x_iinc (q := 28) (z' := v4_1 + 1) (lv' := [(0, .ref (ad 51)), (1, .int (iI a0)), (2, .int (iI a1)), (3, .int (iI (v3_1 + (σ 54 ((5 * a0) + v4_1).toNat)))), (4, .int (iI (v4_1 + 1)))]) C dX10_beginOf_25 4 rfl rfl (Nat.le_of_ble_eq_true rfl) [1, 2, 3, 4, 0] rfl rfl ?_
        refine x_goto (tgt := 5) C dX10_beginOf_28 rfl ?_
        obtain ⟨n6, hl7, h⟩ := h
        refine x_sub [0, 1, 2, 3, 4] rfl ?_
        exact ih1 n6 hl7 _ _ h
  exact L1 n01 0 0 h01
abbrev rm_X10_wideOf : Room := { frames := 0, cells := 0, slots := 0, locals := 0 }
def vc_X10_wideOf (σ : GS) (a0 : Int) (Post : Int → Prop) : Prop :=
  (0 ≤ a0 ∧ a0 < 6) ∧
  ((rg (σ 52 a0.toNat)) ∧
  ((¬ (σ 52 a0.toNat) = 2 →
    (Post 4)) ∧
  ((σ 52 a0.toNat) = 2 →
    (Post 2))))
set_option maxHeartbeats 4000000 in
set_option maxRecDepth 10000 in
theorem m_X10_wideOf (l : Launch) {ad : Nat → Nat} {D : va_G} {cI cZ cG : ClassId} (hI : Ij ad) {σ : GS} {a0 : Int} {Post : Int → Prop} (h : vc_X10_wideOf σ a0 Post) : Met l yX10_wideOf (wX yX10_wideOf cX10_wideOf 2 (some .int)) rm_X10_wideOf (va_Pc [.ref (ad 51), .int (iI a0)] (Wd ad D cI cZ cG σ)) (QI ad D cI cZ cG (fun z u => u = σ ∧ Post z)) 0 0 (Aw ad) := by
  refine met_V (own := RX10) hI (by decide +kernel) rfl (Nat.le_of_ble_eq_true rfl) ?_
  intro p e s m args below meth c C
  unfold vc_X10_wideOf at h
  show V p l e rm_X10_wideOf s m args below meth c ad D cI cZ cG (Aw ad) 2 0 0 (MQ below (QI ad D cI cZ cG (fun z u => u = σ ∧ Post z)) args s 0 0 (Aw ad)) σ 0 [(0, .ref (ad 51)), (1, .int (iI a0))] []
  refine x_aload_n (q := 1) (i := 0) C dX10_wideOf_0 rfl 0 rfl rfl ?_
  refine x_getR (q := 4) (c0 := 52) C (Nat.le_of_ble_eq_true rfl) ly_51 fk_RX10_7 rfl dX10_wideOf_1 rfl ?_
  refine x_iload_n (q := 5) (i := 1) C dX10_wideOf_4 rfl 1 rfl rfl ?_
  obtain ⟨o1, h⟩ := h
  refine x_iald (q := 6) C (Nat.le_of_ble_eq_true rfl) ly_52 dX10_wideOf_5 (ix o1 rfl) (Nat.le_of_ble_eq_true rfl) rfl ?_
  refine x_iconst (q := 7) (z := 2) C dX10_wideOf_6 rfl rfl ?_
  obtain ⟨o2, h⟩ := h
  refine x_icmp_ne (q := 10) (tgt := 14) C dX10_wideOf_7 rfl ⟨o2, by decide⟩ rfl (fun c3 => ?_) (fun c3 => ?_)
  · have h := h.1 c3
    refine x_iconst (q := 15) (z := 4) C dX10_wideOf_14 rfl rfl ?_
    exact x_iret C dX10_wideOf_15 ⟨rfl, h⟩
  · have h := h.2 c3
    refine x_iconst (q := 11) (z := 2) C dX10_wideOf_10 rfl rfl ?_
    refine x_goto (tgt := 15) C dX10_wideOf_11 rfl ?_
    exact x_iret C dX10_wideOf_15 ⟨rfl, h⟩
abbrev rm_X10_cellAt : Room := { frames := 1, cells := 0, slots := 0, locals := 25 }
def vc_X10_cellAt (σ : GS) (a0 : Int) (a1 : Int) (a2 : Int) (Post : Int → Prop) : Prop :=
  vc_X10_beginOf σ a0 a1 (fun (z1 : Int) =>
    (rg (a2 - z1)) ∧
  (vc_X10_wideOf σ a1 (fun (z3 : Int) =>
    (rg (z3 - 1)) ∧
  (vc_X10_in σ (a2 - z1) 0 (z3 - 1) (fun (z5 : Int) =>
    (rg z5) ∧
  ((z5 = 0 →
    (Post (-9))) ∧
  (¬ z5 = 0 →
    ((0 ≤ a1 ∧ a1 < 6) ∧
    ((rg (σ 52 a1.toNat)) ∧
    ((¬ (σ 52 a1.toNat) = 1 →
      (Post (a2 - z1))) ∧
    ((σ 52 a1.toNat) = 1 →
      ((0 ≤ (a2 - z1) ∧ (a2 - z1) ≤ 2147483647) ∧
      ((rg ((a2 - z1) % 2)) ∧
      ((¬ ((a2 - z1) % 2) = 1 →
        (Post (a2 - z1))) ∧
      (((a2 - z1) % 2) = 1 →
        (Post (-9)))))))))))))))))
set_option maxHeartbeats 4000000 in
set_option maxRecDepth 10000 in
theorem m_X10_cellAt (l : Launch) {ad : Nat → Nat} {D : va_G} {cI cZ cG : ClassId} (hI : Ij ad) {σ : GS} {a0 : Int} {a1 : Int} {a2 : Int} {Post : Int → Prop} (h : vc_X10_cellAt σ a0 a1 a2 Post) : Met l yX10_cellAt (wX yX10_cellAt cX10_cellAt 5 (some .int)) rm_X10_cellAt (va_Pc [.ref (ad 51), .int (iI a0), .int (iI a1), .int (iI a2)] (Wd ad D cI cZ cG σ)) (QI ad D cI cZ cG (fun z u => u = σ ∧ Post z)) 0 0 (Aw ad) := by
  refine met_V (own := RX10) hI (by decide +kernel) rfl (Nat.le_of_ble_eq_true rfl) ?_
  intro p e s m args below meth c C
  unfold vc_X10_cellAt at h
  show V p l e rm_X10_cellAt s m args below meth c ad D cI cZ cG (Aw ad) 5 0 0 (MQ below (QI ad D cI cZ cG (fun z u => u = σ ∧ Post z)) args s 0 0 (Aw ad)) σ 0 [(0, .ref (ad 51)), (1, .int (iI a0)), (2, .int (iI a1)), (3, .int (iI a2))] []
  refine x_iload_n (q := 1) (i := 3) C dX10_cellAt_0 rfl 3 rfl rfl ?_
  refine x_aload_n (q := 2) (i := 0) C dX10_cellAt_1 rfl 0 rfl rfl ?_
  refine x_iload_n (q := 3) (i := 1) C dX10_cellAt_2 rfl 1 rfl rfl ?_
  refine x_iload_n (q := 4) (i := 2) C dX10_cellAt_3 rfl 2 rfl rfl ?_
  refine x_virI (q := 7) C (Nat.le_of_ble_eq_true rfl) ly_51 rfl ck_RX10_97 vk_X10_beginOf (m_X10_beginOf l hI h) ⟨⟨rfl, rfl⟩, ⟨Nat.le_of_ble_eq_true rfl, Nat.le_of_ble_eq_true rfl⟩, ⟨Nat.zero_le _, Nat.zero_le _⟩⟩ dX10_cellAt_4 rfl rfl (Nat.le_of_ble_eq_true rfl) rfl (fun z1 σ1 h => ?_)
  rw [h.1]
  have h := h.2
  refine x_isub (q := 8) C dX10_cellAt_7  rfl ?_
  refine x_istore (q := 10) (i := 4) (lv' := [(0, .ref (ad 51)), (1, .int (iI a0)), (2, .int (iI a1)), (3, .int (iI a2)), (4, .int (iI (a2 - z1)))]) C dX10_cellAt_8 (Nat.le_of_ble_eq_true rfl) [1, 2, 3, 4, 0] rfl rfl ?_
  refine x_iload (q := 12) C dX10_cellAt_10 4 rfl rfl ?_
  obtain ⟨o2, h⟩ := h
  refine x_i2l (q := 13) C dX10_cellAt_12 o2 rfl ?_
  refine x_lconst (q := 14) (z := 0) C dX10_cellAt_13 rfl rfl ?_
  refine x_aload_n (q := 15) (i := 0) C dX10_cellAt_14 rfl 0 rfl rfl ?_
  refine x_iload_n (q := 16) (i := 2) C dX10_cellAt_15 rfl 2 rfl rfl ?_
  refine x_virI (q := 19) C (Nat.le_of_ble_eq_true rfl) ly_51 rfl ck_RX10_101 vk_X10_wideOf (m_X10_wideOf l hI h) ⟨⟨rfl, rfl⟩, ⟨Nat.le_of_ble_eq_true rfl, Nat.le_of_ble_eq_true rfl⟩, ⟨Nat.zero_le _, Nat.zero_le _⟩⟩ dX10_cellAt_16 rfl rfl (Nat.le_of_ble_eq_true rfl) rfl (fun z3 σ3 h => ?_)
  rw [h.1]
  have h := h.2
  refine x_iconst (q := 20) (z := 1) C dX10_cellAt_19 rfl rfl ?_
  refine x_isub (q := 21) C dX10_cellAt_20  rfl ?_
  obtain ⟨o4, h⟩ := h
  refine x_i2l (q := 22) C dX10_cellAt_21 o4 rfl ?_
  refine x_staI (q := 25) C ck_RX10_52 t4_33 (m_X10_in l hI h) ⟨⟨rfl, rfl⟩, ⟨Nat.le_of_ble_eq_true rfl, Nat.le_of_ble_eq_true rfl⟩, ⟨Nat.zero_le _, Nat.zero_le _⟩⟩ dX10_cellAt_22 rfl rfl (Nat.le_of_ble_eq_true rfl) rfl (fun z5 σ5 h => ?_)
  rw [h.1]
  have h := h.2
  obtain ⟨o6, h⟩ := h
  refine x_if_eq (q := 28) (tgt := 46) C dX10_cellAt_25 rfl o6 rfl (fun c7 => ?_) (fun c7 => ?_)
  · have h := h.1 c7
    refine x_bipush (q := 48) (z := (-9)) C dX10_cellAt_46 rfl rfl ?_
    exact x_iret C dX10_cellAt_48 ⟨rfl, h⟩
  · have h := h.2 c7
    refine x_aload_n (q := 29) (i := 0) C dX10_cellAt_28 rfl 0 rfl rfl ?_
    refine x_getR (q := 32) (c0 := 52) C (Nat.le_of_ble_eq_true rfl) ly_51 fk_RX10_7 rfl dX10_cellAt_29 rfl ?_
    refine x_iload_n (q := 33) (i := 2) C dX10_cellAt_32 rfl 2 rfl rfl ?_
    obtain ⟨o8, h⟩ := h
    refine x_iald (q := 34) C (Nat.le_of_ble_eq_true rfl) ly_52 dX10_cellAt_33 (ix o8 rfl) (Nat.le_of_ble_eq_true rfl) rfl ?_
    refine x_iconst (q := 35) (z := 1) C dX10_cellAt_34 rfl rfl ?_
    obtain ⟨o9, h⟩ := h
    refine x_icmp_ne (q := 38) (tgt := 49) C dX10_cellAt_35 rfl ⟨o9, by decide⟩ rfl (fun c10 => ?_) (fun c10 => ?_)
    · have h := h.1 c10
      refine x_iload (q := 51) C dX10_cellAt_49 4 rfl rfl ?_
      exact x_iret C dX10_cellAt_51 ⟨rfl, h⟩
    · have h := h.2 c10
      refine x_iload (q := 40) C dX10_cellAt_38 4 rfl rfl ?_
      refine x_iconst (q := 41) (z := 2) C dX10_cellAt_40 rfl rfl ?_
      obtain ⟨o11, h⟩ := h
      refine x_irem (q := 42) C dX10_cellAt_41 ⟨o11, by decide⟩ rfl ?_
      refine x_iconst (q := 43) (z := 1) C dX10_cellAt_42 rfl rfl ?_
      obtain ⟨o12, h⟩ := h
      refine x_icmp_ne (q := 46) (tgt := 49) C dX10_cellAt_43 rfl ⟨o12, by decide⟩ rfl (fun c13 => ?_) (fun c13 => ?_)
      · have h := h.1 c13
        refine x_iload (q := 51) C dX10_cellAt_49 4 rfl rfl ?_
        exact x_iret C dX10_cellAt_51 ⟨rfl, h⟩
      · have h := h.2 c13
        refine x_bipush (q := 48) (z := (-9)) C dX10_cellAt_46 rfl rfl ?_
        exact x_iret C dX10_cellAt_48 ⟨rfl, h⟩
abbrev rm_X10_bladeAt : Room := { frames := 2, cells := 0, slots := 0, locals := 49 }
def vc_X10_bladeAt (σ : GS) (a0 : Int) (a1 : Int) (a2 : Int) (a3 : Int) (Post : Int → Prop) : Prop :=
  ∃ I1 : Nat → Int → Int → Prop, (∃ n : Nat, I1 n (-9) 0) ∧ ∀ (n1 : Nat) (v5_1 : Int) (v6_1 : Int), I1 n1 v5_1 v6_1 →
  ((rg v6_1) ∧
      ((rg (σ 51 0)) ∧
      (((σ 51 0) ≤ v6_1 →
        (Post v5_1)) ∧
      (¬ (σ 51 0) ≤ v6_1 →
        ((rg a3) ∧
        ((¬ a3 = 0 →
          (vc_X10_has σ a1 (((σ 51 0) - 1) - v6_1) (fun (z7 : Int) =>
            (rg z7) ∧
          ((z7 = 0 →
            (∃ n' : Nat, n' < n1 ∧ I1 n' v5_1 (v6_1 + 1))) ∧
          (¬ z7 = 0 →
            (vc_X10_cellAt σ a0 (((σ 51 0) - 1) - v6_1) a2 (fun (z12 : Int) =>
              (rg z12) ∧
            ((z12 = (-9) →
              (∃ n' : Nat, n' < n1 ∧ I1 n' v5_1 (v6_1 + 1))) ∧
            (¬ z12 = (-9) →
              (∃ n' : Nat, n' < n1 ∧ I1 n' (((σ 51 0) - 1) - v6_1) (v6_1 + 1))))))))))) ∧
        (a3 = 0 →
          (vc_X10_has σ a1 v6_1 (fun (z19 : Int) =>
            (rg z19) ∧
          ((z19 = 0 →
            (∃ n' : Nat, n' < n1 ∧ I1 n' v5_1 (v6_1 + 1))) ∧
          (¬ z19 = 0 →
            (vc_X10_cellAt σ a0 v6_1 a2 (fun (z24 : Int) =>
              (rg z24) ∧
            ((z24 = (-9) →
              (∃ n' : Nat, n' < n1 ∧ I1 n' v5_1 (v6_1 + 1))) ∧
            (¬ z24 = (-9) →
              (∃ n' : Nat, n' < n1 ∧ I1 n' v6_1 (v6_1 + 1)))))))))))))))))
set_option maxHeartbeats 4000000 in
set_option maxRecDepth 10000 in
theorem m_X10_bladeAt (l : Launch) {ad : Nat → Nat} {D : va_G} {cI cZ cG : ClassId} (hI : Ij ad) {σ : GS} {a0 : Int} {a1 : Int} {a2 : Int} {a3 : Int} {Post : Int → Prop} (h : vc_X10_bladeAt σ a0 a1 a2 a3 Post) : Met l yX10_bladeAt (wX yX10_bladeAt cX10_bladeAt 8 (some .int)) rm_X10_bladeAt (va_Pc [.ref (ad 51), .int (iI a0), .int (iI a1), .int (iI a2), .int (iI a3)] (Wd ad D cI cZ cG σ)) (QI ad D cI cZ cG (fun z u => u = σ ∧ Post z)) 0 0 (Aw ad) := by
  refine met_V (own := RX10) hI (by decide +kernel) rfl (Nat.le_of_ble_eq_true rfl) ?_
  intro p e s m args below meth c C
  unfold vc_X10_bladeAt at h
  show V p l e rm_X10_bladeAt s m args below meth c ad D cI cZ cG (Aw ad) 8 0 0 (MQ below (QI ad D cI cZ cG (fun z u => u = σ ∧ Post z)) args s 0 0 (Aw ad)) σ 0 [(0, .ref (ad 51)), (1, .int (iI a0)), (2, .int (iI a1)), (3, .int (iI a2)), (4, .int (iI a3))] []
  refine x_bipush (q := 2) (z := (-9)) C dX10_bladeAt_0 rfl rfl ?_
  refine x_istore (q := 4) (i := 5) (lv' := [(0, .ref (ad 51)), (1, .int (iI a0)), (2, .int (iI a1)), (3, .int (iI a2)), (4, .int (iI a3)), (5, .int (iI (-9)))]) C dX10_bladeAt_2 (Nat.le_of_ble_eq_true rfl) [1, 2, 3, 4, 5, 0] rfl rfl ?_
  refine x_iconst (q := 5) (z := 0) C dX10_bladeAt_4 rfl rfl ?_
  refine x_istore (q := 7) (i := 6) (lv' := [(0, .ref (ad 51)), (1, .int (iI a0)), (2, .int (iI a1)), (3, .int (iI a2)), (4, .int (iI a3)), (5, .int (iI (-9))), (6, .int (iI 0))]) C dX10_bladeAt_5 (Nat.le_of_ble_eq_true rfl) [1, 2, 3, 4, 5, 6, 0] rfl rfl ?_
  obtain ⟨I1, ⟨n01, h01⟩, hs1⟩ := h
  have L1 : ∀ (n1 : Nat) (v5_1 : Int) (v6_1 : Int), I1 n1 v5_1 v6_1 → V p l e rm_X10_bladeAt s m args below meth c ad D cI cZ cG (Aw ad) 8 0 0 (MQ below (QI ad D cI cZ cG (fun z u => u = σ ∧ Post z)) args s 0 0 (Aw ad)) σ 7 [(0, .ref (ad 51)), (1, .int (iI a0)), (2, .int (iI a1)), (3, .int (iI a2)), (4, .int (iI a3)), (5, .int (iI v5_1)), (6, .int (iI v6_1))] [] := by
    intro n1
    induction n1 using Nat.strongRecOn with
    | ind n1 ih1 =>
      intro v5_1 v6_1 h
      have h := hs1 n1 v5_1 v6_1 h
      refine x_iload (q := 9) C dX10_bladeAt_7 6 rfl rfl ?_
      refine x_aload_n (q := 10) (i := 0) C dX10_bladeAt_9 rfl 0 rfl rfl ?_
      refine x_getI (q := 13) C (Nat.le_of_ble_eq_true rfl) ly_51 fk_RX10_75 rfl dX10_bladeAt_10 rfl ?_
      obtain ⟨o2, h⟩ := h
      obtain ⟨o3, h⟩ := h
      refine x_icmp_ge (q := 16) (tgt := 74) C dX10_bladeAt_13 rfl ⟨o2, o3⟩ rfl (fun c4 => ?_) (fun c4 => ?_)
      · have h := h.1 c4
        refine x_iload (q := 76) C dX10_bladeAt_74 5 rfl rfl ?_
        exact x_iret C dX10_bladeAt_76 ⟨rfl, h⟩
      · have h := h.2 c4
        refine x_iload (q := 18) C dX10_bladeAt_16 4 rfl rfl ?_
        obtain ⟨o5, h⟩ := h
        refine x_if_ne (q := 21) (tgt := 26) C dX10_bladeAt_18 rfl o5 rfl (fun c6 => ?_) (fun c6 => ?_)
        · have h := h.1 c6
          refine x_aload_n (q := 27) (i := 0) C dX10_bladeAt_26 rfl 0 rfl rfl ?_
          refine x_getI (q := 30) C (Nat.le_of_ble_eq_true rfl) ly_51 fk_RX10_75 rfl dX10_bladeAt_27 rfl ?_
          refine x_iconst (q := 31) (z := 1) C dX10_bladeAt_30 rfl rfl ?_
          refine x_isub (q := 32) C dX10_bladeAt_31  rfl ?_
          refine x_iload (q := 34) C dX10_bladeAt_32 6 rfl rfl ?_
          refine x_isub (q := 35) C dX10_bladeAt_34  rfl ?_
          refine x_istore (q := 37) (i := 7) (lv' := [(0, .ref (ad 51)), (1, .int (iI a0)), (2, .int (iI a1)), (3, .int (iI a2)), (4, .int (iI a3)), (5, .int (iI v5_1)), (6, .int (iI v6_1)), (7, .int (iI (((σ 51 0) - 1) - v6_1)))]) C dX10_bladeAt_35 (Nat.le_of_ble_eq_true rfl) [1, 2, 3, 4, 5, 6, 7, 0] rfl rfl ?_
          refine x_iload_n (q := 38) (i := 2) C dX10_bladeAt_37 rfl 2 rfl rfl ?_
          refine x_iload (q := 40) C dX10_bladeAt_38 7 rfl rfl ?_
          refine x_staI (q := 43) C ck_RX10_105 t4_90 (m_X10_has l hI h) ⟨⟨rfl, rfl⟩, ⟨Nat.le_of_ble_eq_true rfl, Nat.le_of_ble_eq_true rfl⟩, ⟨Nat.zero_le _, Nat.zero_le _⟩⟩ dX10_bladeAt_40 rfl rfl (Nat.le_of_ble_eq_true rfl) rfl (fun z7 σ7 h => ?_)
          rw [h.1]
          have h := h.2
          obtain ⟨o8, h⟩ := h
          refine x_if_eq (q := 46) (tgt := 64) C dX10_bladeAt_43 rfl o8 rfl (fun c9 => ?_) (fun c9 => ?_)
          · have h := h.1 c9
            refine x_iload (q := 66) C dX10_bladeAt_64 5 rfl rfl ?_
            refine x_istore (q := 68) (i := 5) (lv' := [(0, .ref (ad 51)), (1, .int (iI a0)), (2, .int (iI a1)), (3, .int (iI a2)), (4, .int (iI a3)), (5, .int (iI v5_1)), (6, .int (iI v6_1)), (7, .int (iI (((σ 51 0) - 1) - v6_1)))]) C dX10_bladeAt_66 (Nat.le_of_ble_eq_true rfl) [1, 2, 3, 4, 5, 0, 6, 7] rfl rfl ?_
            refine x_iinc (q := 71) (z' := v6_1 + 1) (lv' := [(0, .ref (ad 51)), (1, .int (iI a0)), (2, .int (iI a1)), (3, .int (iI a2)), (4, .int (iI a3)), (5, .int (iI v5_1)), (6, .int (iI (v6_1 + 1))), (7, .int (iI (((σ 51 0) - 1) - v6_1)))]) C dX10_bladeAt_68 6 rfl rfl (Nat.le_of_ble_eq_true rfl) [1, 2, 3, 4, 5, 6, 0, 7] rfl rfl ?_
            refine x_goto (tgt := 7) C dX10_bladeAt_71 rfl ?_
            obtain ⟨n10, hl11, h⟩ := h
            refine x_sub [0, 1, 2, 3, 4, 5, 6] rfl ?_
            exact ih1 n10 hl11 _ _ h
          · have h := h.2 c9
            refine x_aload_n (q := 47) (i := 0) C dX10_bladeAt_46 rfl 0 rfl rfl ?_
            refine x_iload_n (q := 48) (i := 1) C dX10_bladeAt_47 rfl 1 rfl rfl ?_
            refine x_iload (q := 50) C dX10_bladeAt_48 7 rfl rfl ?_
            refine x_iload_n (q := 51) (i := 3) C dX10_bladeAt_50 rfl 3 rfl rfl ?_
            refine x_virI (q := 54) C (Nat.le_of_ble_eq_true rfl) ly_51 rfl ck_RX10_109 vk_X10_cellAt (m_X10_cellAt l hI h) ⟨⟨rfl, rfl⟩, ⟨Nat.le_of_ble_eq_true rfl, Nat.le_of_ble_eq_true rfl⟩, ⟨Nat.zero_le _, Nat.zero_le _⟩⟩ dX10_bladeAt_51 rfl rfl (Nat.le_of_ble_eq_true rfl) rfl (fun z12 σ12 h => ?_)
            rw [h.1]
            have h := h.2
            refine x_bipush (q := 56) (z := (-9)) C dX10_bladeAt_54 rfl rfl ?_
            obtain ⟨o13, h⟩ := h
            refine x_icmp_eq (q := 59) (tgt := 64) C dX10_bladeAt_56 rfl ⟨o13, by decide⟩ rfl (fun c14 => ?_) (fun c14 => ?_)
            · have h := h.1 c14
              refine x_iload (q := 66) C dX10_bladeAt_64 5 rfl rfl ?_
              refine x_istore (q := 68) (i := 5) (lv' := [(0, .ref (ad 51)), (1, .int (iI a0)), (2, .int (iI a1)), (3, .int (iI a2)), (4, .int (iI a3)), (5, .int (iI v5_1)), (6, .int (iI v6_1)), (7, .int (iI (((σ 51 0) - 1) - v6_1)))]) C dX10_bladeAt_66 (Nat.le_of_ble_eq_true rfl) [1, 2, 3, 4, 5, 0, 6, 7] rfl rfl ?_
              refine x_iinc (q := 71) (z' := v6_1 + 1) (lv' := [(0, .ref (ad 51)), (1, .int (iI a0)), (2, .int (iI a1)), (3, .int (iI a2)), (4, .int (iI a3)), (5, .int (iI v5_1)), (6, .int (iI (v6_1 + 1))), (7, .int (iI (((σ 51 0) - 1) - v6_1)))]) C dX10_bladeAt_68 6 rfl rfl (Nat.le_of_ble_eq_true rfl) [1, 2, 3, 4, 5, 6, 0, 7] rfl rfl ?_
              refine x_goto (tgt := 7) C dX10_bladeAt_71 rfl ?_
              obtain ⟨n15, hl16, h⟩ := h
              refine x_sub [0, 1, 2, 3, 4, 5, 6] rfl ?_
              exact ih1 n15 hl16 _ _ h
            · have h := h.2 c14
              refine x_iload (q := 61) C dX10_bladeAt_59 7 rfl rfl ?_
              refine x_goto (tgt := 66) C dX10_bladeAt_61 rfl ?_
              refine x_istore (q := 68) (i := 5) (lv' := [(0, .ref (ad 51)), (1, .int (iI a0)), (2, .int (iI a1)), (3, .int (iI a2)), (4, .int (iI a3)), (5, .int (iI (((σ 51 0) - 1) - v6_1))), (6, .int (iI v6_1)), (7, .int (iI (((σ 51 0) - 1) - v6_1)))]) C dX10_bladeAt_66 (Nat.le_of_ble_eq_true rfl) [1, 2, 3, 4, 5, 0, 6, 7] rfl rfl ?_
              refine x_iinc (q := 71) (z' := v6_1 + 1) (lv' := [(0, .ref (ad 51)), (1, .int (iI a0)), (2, .int (iI a1)), (3, .int (iI a2)), (4, .int (iI a3)), (5, .int (iI (((σ 51 0) - 1) - v6_1))), (6, .int (iI (v6_1 + 1))), (7, .int (iI (((σ 51 0) - 1) - v6_1)))]) C dX10_bladeAt_68 6 rfl rfl (Nat.le_of_ble_eq_true rfl) [1, 2, 3, 4, 5, 6, 0, 7] rfl rfl ?_
              refine x_goto (tgt := 7) C dX10_bladeAt_71 rfl ?_
              obtain ⟨n17, hl18, h⟩ := h
              refine x_sub [0, 1, 2, 3, 4, 5, 6] rfl ?_
              exact ih1 n17 hl18 _ _ h
        · have h := h.2 c6
          refine x_iload (q := 23) C dX10_bladeAt_21 6 rfl rfl ?_
          refine x_goto (tgt := 35) C dX10_bladeAt_23 rfl ?_
          refine x_istore (q := 37) (i := 7) (lv' := [(0, .ref (ad 51)), (1, .int (iI a0)), (2, .int (iI a1)), (3, .int (iI a2)), (4, .int (iI a3)), (5, .int (iI v5_1)), (6, .int (iI v6_1)), (7, .int (iI v6_1))]) C dX10_bladeAt_35 (Nat.le_of_ble_eq_true rfl) [1, 2, 3, 4, 5, 6, 7, 0] rfl rfl ?_
          refine x_iload_n (q := 38) (i := 2) C dX10_bladeAt_37 rfl 2 rfl rfl ?_
          refine x_iload (q := 40) C dX10_bladeAt_38 7 rfl rfl ?_
          refine x_staI (q := 43) C ck_RX10_105 t4_90 (m_X10_has l hI h) ⟨⟨rfl, rfl⟩, ⟨Nat.le_of_ble_eq_true rfl, Nat.le_of_ble_eq_true rfl⟩, ⟨Nat.zero_le _, Nat.zero_le _⟩⟩ dX10_bladeAt_40 rfl rfl (Nat.le_of_ble_eq_true rfl) rfl (fun z19 σ19 h => ?_)
          rw [h.1]
          have h := h.2
          obtain ⟨o20, h⟩ := h
          refine x_if_eq (q := 46) (tgt := 64) C dX10_bladeAt_43 rfl o20 rfl (fun c21 => ?_) (fun c21 => ?_)
          · have h := h.1 c21
            refine x_iload (q := 66) C dX10_bladeAt_64 5 rfl rfl ?_
            refine x_istore (q := 68) (i := 5) (lv' := [(0, .ref (ad 51)), (1, .int (iI a0)), (2, .int (iI a1)), (3, .int (iI a2)), (4, .int (iI a3)), (5, .int (iI v5_1)), (6, .int (iI v6_1)), (7, .int (iI v6_1))]) C dX10_bladeAt_66 (Nat.le_of_ble_eq_true rfl) [1, 2, 3, 4, 5, 0, 6, 7] rfl rfl ?_
            refine x_iinc (q := 71) (z' := v6_1 + 1) (lv' := [(0, .ref (ad 51)), (1, .int (iI a0)), (2, .int (iI a1)), (3, .int (iI a2)), (4, .int (iI a3)), (5, .int (iI v5_1)), (6, .int (iI (v6_1 + 1))), (7, .int (iI v6_1))]) C dX10_bladeAt_68 6 rfl rfl (Nat.le_of_ble_eq_true rfl) [1, 2, 3, 4, 5, 6, 0, 7] rfl rfl ?_
            refine x_goto (tgt := 7) C dX10_bladeAt_71 rfl ?_
            obtain ⟨n22, hl23, h⟩ := h
            refine x_sub [0, 1, 2, 3, 4, 5, 6] rfl ?_
            exact ih1 n22 hl23 _ _ h
          · have h := h.2 c21
            refine x_aload_n (q := 47) (i := 0) C dX10_bladeAt_46 rfl 0 rfl rfl ?_
            refine x_iload_n (q := 48) (i := 1) C dX10_bladeAt_47 rfl 1 rfl rfl ?_
            refine x_iload (q := 50) C dX10_bladeAt_48 7 rfl rfl ?_
            refine x_iload_n (q := 51) (i := 3) C dX10_bladeAt_50 rfl 3 rfl rfl ?_
            refine x_virI (q := 54) C (Nat.le_of_ble_eq_true rfl) ly_51 rfl ck_RX10_109 vk_X10_cellAt (m_X10_cellAt l hI h) ⟨⟨rfl, rfl⟩, ⟨Nat.le_of_ble_eq_true rfl, Nat.le_of_ble_eq_true rfl⟩, ⟨Nat.zero_le _, Nat.zero_le _⟩⟩ dX10_bladeAt_51 rfl rfl (Nat.le_of_ble_eq_true rfl) rfl (fun z24 σ24 h => ?_)
            rw [h.1]
            have h := h.2
            refine x_bipush (q := 56) (z := (-9)) C dX10_bladeAt_54 rfl rfl ?_
            obtain ⟨o25, h⟩ := h
            refine x_icmp_eq (q := 59) (tgt := 64) C dX10_bladeAt_56 rfl ⟨o25, by decide⟩ rfl (fun c26 => ?_) (fun c26 => ?_)
            · have h := h.1 c26
              refine x_iload (q := 66) C dX10_bladeAt_64 5 rfl rfl ?_
              refine x_istore (q := 68) (i := 5) (lv' := [(0, .ref (ad 51)), (1, .int (iI a0)), (2, .int (iI a1)), (3, .int (iI a2)), (4, .int (iI a3)), (5, .int (iI v5_1)), (6, .int (iI v6_1)), (7, .int (iI v6_1))]) C dX10_bladeAt_66 (Nat.le_of_ble_eq_true rfl) [1, 2, 3, 4, 5, 0, 6, 7] rfl rfl ?_
              refine x_iinc (q := 71) (z' := v6_1 + 1) (lv' := [(0, .ref (ad 51)), (1, .int (iI a0)), (2, .int (iI a1)), (3, .int (iI a2)), (4, .int (iI a3)), (5, .int (iI v5_1)), (6, .int (iI (v6_1 + 1))), (7, .int (iI v6_1))]) C dX10_bladeAt_68 6 rfl rfl (Nat.le_of_ble_eq_true rfl) [1, 2, 3, 4, 5, 6, 0, 7] rfl rfl ?_
              refine x_goto (tgt := 7) C dX10_bladeAt_71 rfl ?_
              obtain ⟨n27, hl28, h⟩ := h
              refine x_sub [0, 1, 2, 3, 4, 5, 6] rfl ?_
              exact ih1 n27 hl28 _ _ h
            · have h := h.2 c26
              refine x_iload (q := 61) C dX10_bladeAt_59 7 rfl rfl ?_
              refine x_goto (tgt := 66) C dX10_bladeAt_61 rfl ?_
              refine x_istore (q := 68) (i := 5) (lv' := [(0, .ref (ad 51)), (1, .int (iI a0)), (2, .int (iI a1)), (3, .int (iI a2)), (4, .int (iI a3)), (5, .int (iI v6_1)), (6, .int (iI v6_1)), (7, .int (iI v6_1))]) C dX10_bladeAt_66 (Nat.le_of_ble_eq_true rfl) [1, 2, 3, 4, 5, 0, 6, 7] rfl rfl ?_
              refine x_iinc (q := 71) (z' := v6_1 + 1) (lv' := [(0, .ref (ad 51)), (1, .int (iI a0)), (2, .int (iI a1)), (3, .int (iI a2)), (4, .int (iI a3)), (5, .int (iI v6_1)), (6, .int (iI (v6_1 + 1))), (7, .int (iI v6_1))]) C dX10_bladeAt_68 6 rfl rfl (Nat.le_of_ble_eq_true rfl) [1, 2, 3, 4, 5, 6, 0, 7] rfl rfl ?_
              refine x_goto (tgt := 7) C dX10_bladeAt_71 rfl ?_
              obtain ⟨n29, hl30, h⟩ := h
              refine x_sub [0, 1, 2, 3, 4, 5, 6] rfl ?_
              exact ih1 n29 hl30 _ _ h
  exact L1 n01 (-9) 0 h01
