abbrev rm_X6_letterAt : Room := { frames := 1, cells := 0, slots := 0, locals := 21 }
def vc_X6_letterAt (σ : GS) (a0 : Int) (Post : Int → Prop) : Prop :=
  vc_X6_markAt σ a0 (fun (z1 : Int) =>
    vc_X1_letterOf σ z1 (fun (z2 : Int) =>
    Post z2))
set_option maxHeartbeats 4000000 in
set_option maxRecDepth 10000 in
theorem m_X6_letterAt (l : Launch) {ad : Nat → Nat} {D : va_G} {cI cZ cG : ClassId} (hI : Ij ad) {σ : GS} {a0 : Int} {Post : Int → Prop} (h : vc_X6_letterAt σ a0 Post) : Met l yX6_letterAt (wX yX6_letterAt cX6_letterAt 2 (some .int)) rm_X6_letterAt (va_Pc [.ref (ad 10), .int (iI a0)] (Wd ad D cI cZ cG σ)) (QI ad D cI cZ cG (fun z u => u = σ ∧ Post z)) 0 0 (Aw ad) := by
  refine met_V (own := RX6) hI (by decide +kernel) rfl (Nat.le_of_ble_eq_true rfl) ?_
  intro p e s m args below meth c C
  unfold vc_X6_letterAt at h
  show V p l e rm_X6_letterAt s m args below meth c ad D cI cZ cG (Aw ad) 2 0 0 (MQ below (QI ad D cI cZ cG (fun z u => u = σ ∧ Post z)) args s 0 0 (Aw ad)) σ 0 [(0, .ref (ad 10)), (1, .int (iI a0))] []
  refine x_aload_n (q := 1) (i := 0) C dX6_letterAt_0 rfl 0 rfl rfl ?_
  refine x_getR (q := 4) (c0 := 3) C (Nat.le_of_ble_eq_true rfl) ly_10 fk_RX6_20 rfl dX6_letterAt_1 rfl ?_
  refine x_aload_n (q := 5) (i := 0) C dX6_letterAt_4 rfl 0 rfl rfl ?_
  refine x_iload_n (q := 6) (i := 1) C dX6_letterAt_5 rfl 1 rfl rfl ?_
  refine x_virI (q := 9) C (Nat.le_of_ble_eq_true rfl) ly_10 rfl ck_RX6_87 vk_X6_markAt (m_X6_markAt l hI h) ⟨⟨rfl, rfl⟩, ⟨Nat.le_of_ble_eq_true rfl, Nat.le_of_ble_eq_true rfl⟩, ⟨Nat.zero_le _, Nat.zero_le _⟩⟩ dX6_letterAt_6 rfl rfl (Nat.le_of_ble_eq_true rfl) rfl (fun z1 σ1 h => ?_)
  rw [h.1]
  have h := h.2
  refine x_virI (q := 12) C (Nat.le_of_ble_eq_true rfl) ly_3 rfl ck_RX6_90 vk_X1_letterOf (m_X1_letterOf l hI h) ⟨⟨rfl, rfl⟩, ⟨Nat.le_of_ble_eq_true rfl, Nat.le_of_ble_eq_true rfl⟩, ⟨Nat.zero_le _, Nat.zero_le _⟩⟩ dX6_letterAt_9 rfl rfl (Nat.le_of_ble_eq_true rfl) rfl (fun z2 σ2 h => ?_)
  rw [h.1]
  have h := h.2
  exact x_iret C dX6_letterAt_12 ⟨rfl, h⟩
abbrev rm_X5_fits : Room := { frames := 2, cells := 0, slots := 0, locals := 42 }
def vc_X5_fits (σ : GS)  (Post : Int → Prop) : Prop :=
  ∃ I1 : Nat → Int → Prop, (∃ n : Nat, I1 n 0) ∧ ∀ (n1 : Nat) (v2_1 : Int), I1 n1 v2_1 →
  ((rg v2_1) ∧
      ((rg (σ 44 3)) ∧
      (((σ 44 3) ≤ v2_1 →
        (Post 1)) ∧
      (¬ (σ 44 3) ≤ v2_1 →
        ((0 ≤ v2_1 ∧ v2_1 < 6) ∧
        (vc_X6_letterAt σ (σ 45 v2_1.toNat) (fun (z6 : Int) =>
          (rg z6) ∧
        ((rg (σ 46 v2_1.toNat)) ∧
        ((¬ z6 = (σ 46 v2_1.toNat) →
          ((rg (σ 47 v2_1.toNat)) ∧
          (((0 : Int) = (σ 47 v2_1.toNat) →
            (∃ n' : Nat, n' < n1 ∧ I1 n' (v2_1 + 1))) ∧
          (¬ (0 : Int) = (σ 47 v2_1.toNat) →
            (Post 0))))) ∧
        (z6 = (σ 46 v2_1.toNat) →
          ((rg (σ 47 v2_1.toNat)) ∧
          (((1 : Int) = (σ 47 v2_1.toNat) →
            (∃ n' : Nat, n' < n1 ∧ I1 n' (v2_1 + 1))) ∧
          (¬ (1 : Int) = (σ 47 v2_1.toNat) →
            (Post 0))))))))))))))
set_option maxHeartbeats 4000000 in
set_option maxRecDepth 10000 in
theorem m_X5_fits (l : Launch) {ad : Nat → Nat} {D : va_G} {cI cZ cG : ClassId} (hI : Ij ad) {σ : GS}  {Post : Int → Prop} (h : vc_X5_fits σ  Post) : Met l yX5_fits (wX yX5_fits cX5_fits 3 (some .boolean)) rm_X5_fits (va_Pc [.ref (ad 44), .ref (ad 10)] (Wd ad D cI cZ cG σ)) (QI ad D cI cZ cG (fun z u => u = σ ∧ Post z)) 0 0 (Aw ad) := by
  refine met_V (own := RX5) hI (by decide +kernel) rfl (Nat.le_of_ble_eq_true rfl) ?_
  intro p e s m args below meth c C
  unfold vc_X5_fits at h
  show V p l e rm_X5_fits s m args below meth c ad D cI cZ cG (Aw ad) 3 0 0 (MQ below (QI ad D cI cZ cG (fun z u => u = σ ∧ Post z)) args s 0 0 (Aw ad)) σ 0 [(0, .ref (ad 44)), (1, .ref (ad 10))] []
  refine x_iconst (q := 1) (z := 0) C dX5_fits_0 rfl rfl ?_
  refine x_istore_n (q := 2) (i := 2) (lv' := [(0, .ref (ad 44)), (1, .ref (ad 10)), (2, .int (iI 0))]) C dX5_fits_1 rfl (Nat.le_of_ble_eq_true rfl) [1, 2, 0] rfl rfl ?_
  obtain ⟨I1, ⟨n01, h01⟩, hs1⟩ := h
  have L1 : ∀ (n1 : Nat) (v2_1 : Int), I1 n1 v2_1 → V p l e rm_X5_fits s m args below meth c ad D cI cZ cG (Aw ad) 3 0 0 (MQ below (QI ad D cI cZ cG (fun z u => u = σ ∧ Post z)) args s 0 0 (Aw ad)) σ 2 [(0, .ref (ad 44)), (1, .ref (ad 10)), (2, .int (iI v2_1))] [] := by
    intro n1
    induction n1 using Nat.strongRecOn with
    | ind n1 ih1 =>
      intro v2_1 h
      have h := hs1 n1 v2_1 h
      refine x_iload_n (q := 3) (i := 2) C dX5_fits_2 rfl 2 rfl rfl ?_
      refine x_aload_n (q := 4) (i := 0) C dX5_fits_3 rfl 0 rfl rfl ?_
      refine x_getI (q := 7) C (Nat.le_of_ble_eq_true rfl) ly_44 fk_RX5_22 rfl dX5_fits_4 rfl ?_
      obtain ⟨o2, h⟩ := h
      obtain ⟨o3, h⟩ := h
      refine x_icmp_ge (q := 10) (tgt := 51) C dX5_fits_7 rfl ⟨o2, o3⟩ rfl (fun c4 => ?_) (fun c4 => ?_)
      · have h := h.1 c4
        refine x_iconst (q := 52) (z := 1) C dX5_fits_51 rfl rfl ?_
        exact x_zret C dX5_fits_52 (by decide) ⟨rfl, h⟩
      · have h := h.2 c4
        refine x_aload_n (q := 11) (i := 1) C dX5_fits_10 rfl 1 rfl rfl ?_
        refine x_aload_n (q := 12) (i := 0) C dX5_fits_11 rfl 0 rfl rfl ?_
        refine x_getR (q := 15) (c0 := 45) C (Nat.le_of_ble_eq_true rfl) ly_44 fk_RX5_9 rfl dX5_fits_12 rfl ?_
        refine x_iload_n (q := 16) (i := 2) C dX5_fits_15 rfl 2 rfl rfl ?_
        obtain ⟨o5, h⟩ := h
        refine x_iald (q := 17) C (Nat.le_of_ble_eq_true rfl) ly_45 dX5_fits_16 (ix o5 rfl) (Nat.le_of_ble_eq_true rfl) rfl ?_
        refine x_virI (q := 20) C (Nat.le_of_ble_eq_true rfl) ly_10 rfl ck_RX5_26 vk_X6_letterAt (m_X6_letterAt l hI h) ⟨⟨rfl, rfl⟩, ⟨Nat.le_of_ble_eq_true rfl, Nat.le_of_ble_eq_true rfl⟩, ⟨Nat.zero_le _, Nat.zero_le _⟩⟩ dX5_fits_17 rfl rfl (Nat.le_of_ble_eq_true rfl) rfl (fun z6 σ6 h => ?_)
        rw [h.1]
        have h := h.2
        refine x_aload_n (q := 21) (i := 0) C dX5_fits_20 rfl 0 rfl rfl ?_
        refine x_getR (q := 24) (c0 := 46) C (Nat.le_of_ble_eq_true rfl) ly_44 fk_RX5_15 rfl dX5_fits_21 rfl ?_
        refine x_iload_n (q := 25) (i := 2) C dX5_fits_24 rfl 2 rfl rfl ?_
        refine x_iald (q := 26) C (Nat.le_of_ble_eq_true rfl) ly_46 dX5_fits_25 (ix o5 rfl) (Nat.le_of_ble_eq_true rfl) rfl ?_
        obtain ⟨o7, h⟩ := h
        obtain ⟨o8, h⟩ := h
        refine x_icmp_ne (q := 29) (tgt := 33) C dX5_fits_26 rfl ⟨o7, o8⟩ rfl (fun c9 => ?_) (fun c9 => ?_)
        · have h := h.1 c9
          refine x_iconst (q := 34) (z := 0) C dX5_fits_33 rfl rfl ?_
          refine x_aload_n (q := 35) (i := 0) C dX5_fits_34 rfl 0 rfl rfl ?_
          refine x_getR (q := 38) (c0 := 47) C (Nat.le_of_ble_eq_true rfl) ly_44 fk_RX5_18 rfl dX5_fits_35 rfl ?_
          refine x_iload_n (q := 39) (i := 2) C dX5_fits_38 rfl 2 rfl rfl ?_
          refine x_bald (q := 40) C (Nat.le_of_ble_eq_true rfl) ly_47 dX5_fits_39 (ix o5 rfl) (Nat.le_of_ble_eq_true rfl) rfl ?_
          obtain ⟨o10, h⟩ := h
          refine x_icmp_eq (q := 43) (tgt := 45) C dX5_fits_40 rfl ⟨by decide, o10⟩ rfl (fun c11 => ?_) (fun c11 => ?_)
          · have h := h.1 c11
            refine x_iinc (q := 48) (z' := v2_1 + 1) (lv' := [(0, .ref (ad 44)), (1, .ref (ad 10)), (2, .int (iI (v2_1 + 1)))]) C dX5_fits_45 2 rfl rfl (Nat.le_of_ble_eq_true rfl) [1, 2, 0] rfl rfl ?_
            refine x_goto (tgt := 2) C dX5_fits_48 rfl ?_
            obtain ⟨n12, hl13, h⟩ := h
            refine x_sub [0, 1, 2] rfl ?_
            exact ih1 n12 hl13 _ h
          · have h := h.2 c11
            refine x_iconst (q := 44) (z := 0) C dX5_fits_43 rfl rfl ?_
            exact x_zret C dX5_fits_44 (by decide) ⟨rfl, h⟩
        · have h := h.2 c9
          refine x_iconst (q := 30) (z := 1) C dX5_fits_29 rfl rfl ?_
          refine x_goto (tgt := 34) C dX5_fits_30 rfl ?_
          refine x_aload_n (q := 35) (i := 0) C dX5_fits_34 rfl 0 rfl rfl ?_
          refine x_getR (q := 38) (c0 := 47) C (Nat.le_of_ble_eq_true rfl) ly_44 fk_RX5_18 rfl dX5_fits_35 rfl ?_
          refine x_iload_n (q := 39) (i := 2) C dX5_fits_38 rfl 2 rfl rfl ?_
          refine x_bald (q := 40) C (Nat.le_of_ble_eq_true rfl) ly_47 dX5_fits_39 (ix o5 rfl) (Nat.le_of_ble_eq_true rfl) rfl ?_
          obtain ⟨o14, h⟩ := h
          refine x_icmp_eq (q := 43) (tgt := 45) C dX5_fits_40 rfl ⟨by decide, o14⟩ rfl (fun c15 => ?_) (fun c15 => ?_)
          · have h := h.1 c15
            refine x_iinc (q := 48) (z' := v2_1 + 1) (lv' := [(0, .ref (ad 44)), (1, .ref (ad 10)), (2, .int (iI (v2_1 + 1)))]) C dX5_fits_45 2 rfl rfl (Nat.le_of_ble_eq_true rfl) [1, 2, 0] rfl rfl ?_
            refine x_goto (tgt := 2) C dX5_fits_48 rfl ?_
            obtain ⟨n16, hl17, h⟩ := h
            refine x_sub [0, 1, 2] rfl ?_
            exact ih1 n16 hl17 _ h
          · have h := h.2 c15
            refine x_iconst (q := 44) (z := 0) C dX5_fits_43 rfl rfl ?_
            exact x_zret C dX5_fits_44 (by decide) ⟨rfl, h⟩
  exact L1 n01 0 h01
abbrev rm_X6_side : Room := { frames := 0, cells := 0, slots := 0, locals := 0 }
def vc_X6_side (σ : GS)  (Post : Int → Prop) : Prop :=
  Post (σ 10 3)
set_option maxHeartbeats 4000000 in
set_option maxRecDepth 10000 in
theorem m_X6_side (l : Launch) {ad : Nat → Nat} {D : va_G} {cI cZ cG : ClassId} (hI : Ij ad) {σ : GS}  {Post : Int → Prop} (h : vc_X6_side σ  Post) : Met l yX6_side (wX yX6_side cX6_side 1 (some .int)) rm_X6_side (va_Pc [.ref (ad 10)] (Wd ad D cI cZ cG σ)) (QI ad D cI cZ cG (fun z u => u = σ ∧ Post z)) 0 0 (Aw ad) := by
  refine met_V (own := RX6) hI (by decide +kernel) rfl (Nat.le_of_ble_eq_true rfl) ?_
  intro p e s m args below meth c C
  unfold vc_X6_side at h
  show V p l e rm_X6_side s m args below meth c ad D cI cZ cG (Aw ad) 1 0 0 (MQ below (QI ad D cI cZ cG (fun z u => u = σ ∧ Post z)) args s 0 0 (Aw ad)) σ 0 [(0, .ref (ad 10))] []
  refine x_aload_n (q := 1) (i := 0) C dX6_side_0 rfl 0 rfl rfl ?_
  refine x_getI (q := 4) C (Nat.le_of_ble_eq_true rfl) ly_10 fk_RX6_30 rfl dX6_side_1 rfl ?_
  exact x_iret C dX6_side_4 ⟨rfl, h⟩
abbrev rm_X9_isPlace : Room := { frames := 0, cells := 0, slots := 0, locals := 0 }
def vc_X9_isPlace (σ : GS) (a0 : Int) (Post : Int → Prop) : Prop :=
  (rg a0) ∧
  ((a0 < 0 →
    (Post 0)) ∧
  (¬ a0 < 0 →
    (((28 : Int) ≤ a0 →
      (Post 0)) ∧
    (¬ (28 : Int) ≤ a0 →
      (Post 1)))))
set_option maxHeartbeats 4000000 in
set_option maxRecDepth 10000 in
theorem m_X9_isPlace (l : Launch) {ad : Nat → Nat} {D : va_G} {cI cZ cG : ClassId} (hI : Ij ad) {σ : GS} {a0 : Int} {Post : Int → Prop} (h : vc_X9_isPlace σ a0 Post) : Met l yX9_isPlace (wX yX9_isPlace cX9_isPlace 1 (some .boolean)) rm_X9_isPlace (va_Pc [.int (iI a0)] (Wd ad D cI cZ cG σ)) (QI ad D cI cZ cG (fun z u => u = σ ∧ Post z)) 0 0 (Aw ad) := by
  refine met_V (own := RX9) hI (by decide +kernel) rfl (Nat.le_of_ble_eq_true rfl) ?_
  intro p e s m args below meth c C
  unfold vc_X9_isPlace at h
  show V p l e rm_X9_isPlace s m args below meth c ad D cI cZ cG (Aw ad) 1 0 0 (MQ below (QI ad D cI cZ cG (fun z u => u = σ ∧ Post z)) args s 0 0 (Aw ad)) σ 0 [(0, .int (iI a0))] []
  refine x_iload_n (q := 1) (i := 0) C dX9_isPlace_0 rfl 0 rfl rfl ?_
  obtain ⟨o1, h⟩ := h
  refine x_if_lt (q := 4) (tgt := 14) C dX9_isPlace_1 rfl o1 rfl (fun c2 => ?_) (fun c2 => ?_)
  · have h := h.1 c2
    refine x_iconst (q := 15) (z := 0) C dX9_isPlace_14 rfl rfl ?_
    exact x_zret C dX9_isPlace_15 (by decide) ⟨rfl, h⟩
  · have h := h.2 c2
    refine x_iload_n (q := 5) (i := 0) C dX9_isPlace_4 rfl 0 rfl rfl ?_
    refine x_bipush (q := 7) (z := 28) C dX9_isPlace_5 rfl rfl ?_
    refine x_icmp_ge (q := 10) (tgt := 14) C dX9_isPlace_7 rfl ⟨o1, by decide⟩ rfl (fun c3 => ?_) (fun c3 => ?_)
    · have h := h.1 c3
      refine x_iconst (q := 15) (z := 0) C dX9_isPlace_14 rfl rfl ?_
      exact x_zret C dX9_isPlace_15 (by decide) ⟨rfl, h⟩
    · have h := h.2 c3
      refine x_iconst (q := 11) (z := 1) C dX9_isPlace_10 rfl rfl ?_
      refine x_goto (tgt := 15) C dX9_isPlace_11 rfl ?_
      exact x_zret C dX9_isPlace_15 (by decide) ⟨rfl, h⟩
abbrev rm_X6_liesUpper : Room := { frames := 0, cells := 0, slots := 0, locals := 0 }
def vc_X6_liesUpper (σ : GS) (a0 : Int) (Post : Int → Prop) : Prop :=
  (rg (σ 10 3)) ∧
  (((σ 10 3) = 0 →
    (Post 1)) ∧
  (¬ (σ 10 3) = 0 →
    ((rg a0) ∧
    (((0 : Int) ≤ a0 →
      (Post 0)) ∧
    (¬ (0 : Int) ≤ a0 →
      (Post 1))))))
set_option maxHeartbeats 4000000 in
set_option maxRecDepth 10000 in
theorem m_X6_liesUpper (l : Launch) {ad : Nat → Nat} {D : va_G} {cI cZ cG : ClassId} (hI : Ij ad) {σ : GS} {a0 : Int} {Post : Int → Prop} (h : vc_X6_liesUpper σ a0 Post) : Met l yX6_liesUpper (wX yX6_liesUpper cX6_liesUpper 2 (some .boolean)) rm_X6_liesUpper (va_Pc [.ref (ad 10), .int (iI a0)] (Wd ad D cI cZ cG σ)) (QI ad D cI cZ cG (fun z u => u = σ ∧ Post z)) 0 0 (Aw ad) := by
  refine met_V (own := RX6) hI (by decide +kernel) rfl (Nat.le_of_ble_eq_true rfl) ?_
  intro p e s m args below meth c C
  unfold vc_X6_liesUpper at h
  show V p l e rm_X6_liesUpper s m args below meth c ad D cI cZ cG (Aw ad) 2 0 0 (MQ below (QI ad D cI cZ cG (fun z u => u = σ ∧ Post z)) args s 0 0 (Aw ad)) σ 0 [(0, .ref (ad 10)), (1, .int (iI a0))] []
  refine x_aload_n (q := 1) (i := 0) C dX6_liesUpper_0 rfl 0 rfl rfl ?_
  refine x_getI (q := 4) C (Nat.le_of_ble_eq_true rfl) ly_10 fk_RX6_30 rfl dX6_liesUpper_1 rfl ?_
  obtain ⟨o1, h⟩ := h
  refine x_if_eq (q := 7) (tgt := 11) C dX6_liesUpper_4 rfl o1 rfl (fun c2 => ?_) (fun c2 => ?_)
  · have h := h.1 c2
    refine x_iconst (q := 12) (z := 1) C dX6_liesUpper_11 rfl rfl ?_
    refine x_goto (tgt := 16) C dX6_liesUpper_12 rfl ?_
    exact x_zret C dX6_liesUpper_16 (by decide) ⟨rfl, h⟩
  · have h := h.2 c2
    refine x_iload_n (q := 8) (i := 1) C dX6_liesUpper_7 rfl 1 rfl rfl ?_
    obtain ⟨o3, h⟩ := h
    refine x_if_ge (q := 11) (tgt := 15) C dX6_liesUpper_8 rfl o3 rfl (fun c4 => ?_) (fun c4 => ?_)
    · have h := h.1 c4
      refine x_iconst (q := 16) (z := 0) C dX6_liesUpper_15 rfl rfl ?_
      exact x_zret C dX6_liesUpper_16 (by decide) ⟨rfl, h⟩
    · have h := h.2 c4
      refine x_iconst (q := 12) (z := 1) C dX6_liesUpper_11 rfl rfl ?_
      refine x_goto (tgt := 16) C dX6_liesUpper_12 rfl ?_
      exact x_zret C dX6_liesUpper_16 (by decide) ⟨rfl, h⟩
abbrev rm_X6_lay : Room := { frames := 1, cells := 0, slots := 0, locals := 23 }
def vc_X6_lay (σ : GS) (a0 : Int) (r2 : Nat) (Post : GS → Prop) : Prop :=
  (lay r2 = cA 28 ∧ r2 < 65) ∧
  (∃ I1 : Nat → Int → GS → Prop, (∃ n : Nat, I1 n 0 σ) ∧ ∀ (n1 : Nat) (v3_1 : Int) (σ1 : GS), I1 n1 v3_1 σ1 →
  ((rg v3_1) ∧
      (((4 : Int) ≤ v3_1 →
        (Post σ1)) ∧
      (¬ (4 : Int) ≤ v3_1 →
        ((0 ≤ a0 ∧ a0 < 6) ∧
        (vc_X9_isPlace σ1 ((σ1 19 a0.toNat) + v3_1) (fun (z5 : Int) =>
          (rg z5) ∧
        ((z5 = 0 →
          (∃ n' : Nat, n' < n1 ∧ I1 n' (v3_1 + 1) σ1)) ∧
        (¬ z5 = 0 →
          (vc_X1_isSolid σ1 a0 v3_1 (fun (z10 : Int) =>
            (rg z10) ∧
          ((z10 = 0 →
            (∃ n' : Nat, n' < n1 ∧ I1 n' (v3_1 + 1) σ1)) ∧
          (¬ z10 = 0 →
            ((0 ≤ ((σ1 19 a0.toNat) + v3_1) ∧ ((σ1 19 a0.toNat) + v3_1) < 28) ∧
            (vc_X6_liesUpper σ1 (σ1 r2 ((σ1 19 a0.toNat) + v3_1).toNat) (fun (z16 : Int) =>
              (rg z16) ∧
            ((z16 = 0 →
              (∃ n' : Nat, n' < n1 ∧ I1 n' (v3_1 + 1) σ1)) ∧
            (¬ z16 = 0 →
              (vc_X1_markOf σ1 a0 (σ1 10 3) v3_1 (fun (z21 : Int) =>
                ∃ n' : Nat, n' < n1 ∧ I1 n' (v3_1 + 1) (up2 σ1 r2 ((σ1 19 a0.toNat) + v3_1).toNat z21)))))))))))))))))))))
set_option maxHeartbeats 4000000 in
set_option maxRecDepth 10000 in
theorem m_X6_lay (l : Launch) {ad : Nat → Nat} {D : va_G} {cI cZ cG : ClassId} (hI : Ij ad) {σ : GS} {a0 : Int} {r2 : Nat} {Post : GS → Prop} (h : vc_X6_lay σ a0 r2 Post) : Met l yX6_lay (wX yX6_lay cX6_lay 5 none) rm_X6_lay (va_Pc [.ref (ad 10), .int (iI a0), .ref (ad r2)] (Wd ad D cI cZ cG σ)) (QV ad D cI cZ cG Post) 0 0 (Aw ad) := by
  refine met_V (own := RX6) hI (by decide +kernel) rfl (Nat.le_of_ble_eq_true rfl) ?_
  intro p e s m args below meth c C
  unfold vc_X6_lay at h
  show V p l e rm_X6_lay s m args below meth c ad D cI cZ cG (Aw ad) 5 0 0 (MQ below (QV ad D cI cZ cG Post) args s 0 0 (Aw ad)) σ 0 [(0, .ref (ad 10)), (1, .int (iI a0)), (2, .ref (ad r2))] []
  obtain ⟨hp0, h⟩ := h
  refine x_iconst (q := 1) (z := 0) C dX6_lay_0 rfl rfl ?_
  refine x_istore_n (q := 2) (i := 3) (lv' := [(0, .ref (ad 10)), (1, .int (iI a0)), (2, .ref (ad r2)), (3, .int (iI 0))]) C dX6_lay_1 rfl (Nat.le_of_ble_eq_true rfl) [1, 2, 3, 0] rfl rfl ?_
  obtain ⟨I1, ⟨n01, h01⟩, hs1⟩ := h
  have L1 : ∀ (n1 : Nat) (v3_1 : Int) (σ1 : GS), I1 n1 v3_1 σ1 → V p l e rm_X6_lay s m args below meth c ad D cI cZ cG (Aw ad) 5 0 0 (MQ below (QV ad D cI cZ cG Post) args s 0 0 (Aw ad)) σ1 2 [(0, .ref (ad 10)), (1, .int (iI a0)), (2, .ref (ad r2)), (3, .int (iI v3_1))] [] := by
    intro n1
    induction n1 using Nat.strongRecOn with
    | ind n1 ih1 =>
      intro v3_1 σ1 h
      have h := hs1 n1 v3_1 σ1 h
      refine x_iload_n (q := 3) (i := 3) C dX6_lay_2 rfl 3 rfl rfl ?_
      refine x_iconst (q := 4) (z := 4) C dX6_lay_3 rfl rfl ?_
      obtain ⟨o2, h⟩ := h
      refine x_icmp_ge (q := 7) (tgt := 71) C dX6_lay_4 rfl ⟨o2, by decide⟩ rfl (fun c3 => ?_) (fun c3 => ?_)
      · have h := h.1 c3
        exact x_vret C dX6_lay_71 h
      · have h := h.2 c3
        refine x_aload_n (q := 8) (i := 0) C dX6_lay_7 rfl 0 rfl rfl ?_
        refine x_getR (q := 11) (c0 := 19) C (Nat.le_of_ble_eq_true rfl) ly_10 fk_RX6_16 rfl dX6_lay_8 rfl ?_
        refine x_iload_n (q := 12) (i := 1) C dX6_lay_11 rfl 1 rfl rfl ?_
        obtain ⟨o4, h⟩ := h
        refine x_iald (q := 13) C (Nat.le_of_ble_eq_true rfl) ly_19 dX6_lay_12 (ix o4 rfl) (Nat.le_of_ble_eq_true rfl) rfl ?_
        refine x_iload_n (q := 14) (i := 3) C dX6_lay_13 rfl 3 rfl rfl ?_
        refine x_iadd (q := 15) C dX6_lay_14  rfl ?_
        refine x_istore (q := 17) (i := 4) (lv' := [(0, .ref (ad 10)), (1, .int (iI a0)), (2, .ref (ad r2)), (3, .int (iI v3_1)), (4, .int (iI ((σ1 19 a0.toNat) + v3_1)))]) C dX6_lay_15 (Nat.le_of_ble_eq_true rfl) [1, 2, 3, 4, 0] rfl rfl ?_
        refine x_iload (q := 19) C dX6_lay_17 4 rfl rfl ?_
        refine x_nstI (q := 22) C C.2.2.2.2.2.1.2.2 nk_X9_isPlace t2_113 (m_X9_isPlace l hI h) ⟨⟨rfl, rfl⟩, ⟨Nat.le_of_ble_eq_true rfl, Nat.le_of_ble_eq_true rfl⟩, ⟨Nat.zero_le _, Nat.zero_le _⟩⟩ dX6_lay_19 rfl rfl (Nat.le_of_ble_eq_true rfl) rfl (fun z5 σ5 h => ?_)
        rw [h.1]
        have h := h.2
        obtain ⟨o6, h⟩ := h
        refine x_if_eq (q := 25) (tgt := 65) C dX6_lay_22 rfl o6 rfl (fun c7 => ?_) (fun c7 => ?_)
        · have h := h.1 c7
          refine x_iinc (q := 68) (z' := v3_1 + 1) (lv' := [(0, .ref (ad 10)), (1, .int (iI a0)), (2, .ref (ad r2)), (3, .int (iI (v3_1 + 1))), (4, .int (iI ((σ1 19 a0.toNat) + v3_1)))]) C dX6_lay_65 3 rfl rfl (Nat.le_of_ble_eq_true rfl) [1, 2, 3, 0, 4] rfl rfl ?_
          refine x_goto (tgt := 2) C dX6_lay_68 rfl ?_
          obtain ⟨n8, hl9, h⟩ := h
          refine x_sub [0, 1, 2, 3] rfl ?_
          exact ih1 n8 hl9 _ _ h
        · have h := h.2 c7
          refine x_aload_n (q := 26) (i := 0) C dX6_lay_25 rfl 0 rfl rfl ?_
          refine x_getR (q := 29) (c0 := 3) C (Nat.le_of_ble_eq_true rfl) ly_10 fk_RX6_20 rfl dX6_lay_26 rfl ?_
          refine x_iload_n (q := 30) (i := 1) C dX6_lay_29 rfl 1 rfl rfl ?_
          refine x_iload_n (q := 31) (i := 3) C dX6_lay_30 rfl 3 rfl rfl ?_
          refine x_virI (q := 34) C (Nat.le_of_ble_eq_true rfl) ly_3 rfl ck_RX6_73 vk_X1_isSolid (m_X1_isSolid l hI h) ⟨⟨rfl, rfl⟩, ⟨Nat.le_of_ble_eq_true rfl, Nat.le_of_ble_eq_true rfl⟩, ⟨Nat.zero_le _, Nat.zero_le _⟩⟩ dX6_lay_31 rfl rfl (Nat.le_of_ble_eq_true rfl) rfl (fun z10 σ10 h => ?_)
          rw [h.1]
          have h := h.2
          obtain ⟨o11, h⟩ := h
          refine x_if_eq (q := 37) (tgt := 65) C dX6_lay_34 rfl o11 rfl (fun c12 => ?_) (fun c12 => ?_)
          · have h := h.1 c12
            refine x_iinc (q := 68) (z' := v3_1 + 1) (lv' := [(0, .ref (ad 10)), (1, .int (iI a0)), (2, .ref (ad r2)), (3, .int (iI (v3_1 + 1))), (4, .int (iI ((σ1 19 a0.toNat) + v3_1)))]) C dX6_lay_65 3 rfl rfl (Nat.le_of_ble_eq_true rfl) [1, 2, 3, 0, 4] rfl rfl ?_
            refine x_goto (tgt := 2) C dX6_lay_68 rfl ?_
            obtain ⟨n13, hl14, h⟩ := h
            refine x_sub [0, 1, 2, 3] rfl ?_
            exact ih1 n13 hl14 _ _ h
          · have h := h.2 c12
            refine x_aload_n (q := 38) (i := 0) C dX6_lay_37 rfl 0 rfl rfl ?_
            refine x_aload_n (q := 39) (i := 2) C dX6_lay_38 rfl 2 rfl rfl ?_
            refine x_iload (q := 41) C dX6_lay_39 4 rfl rfl ?_
            obtain ⟨o15, h⟩ := h
            refine x_iald (q := 42) C hp0.2 hp0.1 dX6_lay_41 (ix o15 rfl) (Nat.le_of_ble_eq_true rfl) rfl ?_
            refine x_virI (q := 45) C (Nat.le_of_ble_eq_true rfl) ly_10 rfl ck_RX6_77 vk_X6_liesUpper (m_X6_liesUpper l hI h) ⟨⟨rfl, rfl⟩, ⟨Nat.le_of_ble_eq_true rfl, Nat.le_of_ble_eq_true rfl⟩, ⟨Nat.zero_le _, Nat.zero_le _⟩⟩ dX6_lay_42 rfl rfl (Nat.le_of_ble_eq_true rfl) rfl (fun z16 σ16 h => ?_)
            rw [h.1]
            have h := h.2
            obtain ⟨o17, h⟩ := h
            refine x_if_eq (q := 48) (tgt := 65) C dX6_lay_45 rfl o17 rfl (fun c18 => ?_) (fun c18 => ?_)
            · have h := h.1 c18
              refine x_iinc (q := 68) (z' := v3_1 + 1) (lv' := [(0, .ref (ad 10)), (1, .int (iI a0)), (2, .ref (ad r2)), (3, .int (iI (v3_1 + 1))), (4, .int (iI ((σ1 19 a0.toNat) + v3_1)))]) C dX6_lay_65 3 rfl rfl (Nat.le_of_ble_eq_true rfl) [1, 2, 3, 0, 4] rfl rfl ?_
              refine x_goto (tgt := 2) C dX6_lay_68 rfl ?_
              obtain ⟨n19, hl20, h⟩ := h
              refine x_sub [0, 1, 2, 3] rfl ?_
              exact ih1 n19 hl20 _ _ h
            · have h := h.2 c18
              refine x_aload_n (q := 49) (i := 2) C dX6_lay_48 rfl 2 rfl rfl ?_
              refine x_iload (q := 51) C dX6_lay_49 4 rfl rfl ?_
              refine x_aload_n (q := 52) (i := 0) C dX6_lay_51 rfl 0 rfl rfl ?_
              refine x_getR (q := 55) (c0 := 3) C (Nat.le_of_ble_eq_true rfl) ly_10 fk_RX6_20 rfl dX6_lay_52 rfl ?_
              refine x_iload_n (q := 56) (i := 1) C dX6_lay_55 rfl 1 rfl rfl ?_
              refine x_aload_n (q := 57) (i := 0) C dX6_lay_56 rfl 0 rfl rfl ?_
              refine x_getI (q := 60) C (Nat.le_of_ble_eq_true rfl) ly_10 fk_RX6_30 rfl dX6_lay_57 rfl ?_
              refine x_iload_n (q := 61) (i := 3) C dX6_lay_60 rfl 3 rfl rfl ?_
              refine x_virI (q := 64) C (Nat.le_of_ble_eq_true rfl) ly_3 rfl ck_RX6_80 vk_X1_markOf (m_X1_markOf l hI h) ⟨⟨rfl, rfl⟩, ⟨Nat.le_of_ble_eq_true rfl, Nat.le_of_ble_eq_true rfl⟩, ⟨Nat.zero_le _, Nat.zero_le _⟩⟩ dX6_lay_61 rfl rfl (Nat.le_of_ble_eq_true rfl) rfl (fun z21 σ21 h => ?_)
              rw [h.1]
              have h := h.2
              refine x_iast (q := 65) C hp0.2 hp0.1 dX6_lay_64 (ix o15 rfl) (Nat.le_of_ble_eq_true rfl)  rfl ?_
              refine x_iinc (q := 68) (z' := v3_1 + 1) (lv' := [(0, .ref (ad 10)), (1, .int (iI a0)), (2, .ref (ad r2)), (3, .int (iI (v3_1 + 1))), (4, .int (iI ((σ1 19 a0.toNat) + v3_1)))]) C dX6_lay_65 3 rfl rfl (Nat.le_of_ble_eq_true rfl) [1, 2, 3, 0, 4] rfl rfl ?_
              refine x_goto (tgt := 2) C dX6_lay_68 rfl ?_
              obtain ⟨n22, hl23, h⟩ := h
              refine x_sub [0, 1, 2, 3] rfl ?_
              exact ih1 n22 hl23 _ _ h
  exact L1 n01 0 σ h01
abbrev rm_X6_layFrom : Room := { frames := 2, cells := 0, slots := 0, locals := 47 }
def vc_X6_layFrom (σ : GS) (a0 : Int) (k2 : Nat) (a2 : Int) (Post : GS → Prop) : Prop :=
  (k2 = 6 ∨ k2 = 8) ∧
  (vc_X1_size σ  (fun (z1 : Int) =>
    (rg a0) ∧
  (∃ I3 : Nat → Int → GS → Prop, (∃ n : Nat, I3 n (max 0 a0) (up2 σ 10 4 z1)) ∧ ∀ (n3 : Nat) (v4_3 : Int) (σ3 : GS), I3 n3 v4_3 σ3 →
  ((rg v4_3) ∧
      ((rg (σ3 10 4)) ∧
      (((σ3 10 4) ≤ v4_3 →
        (Post σ3)) ∧
      (¬ (σ3 10 4) ≤ v4_3 →
        (((6 : Int) ≤ v4_3 →
          (Post σ3)) ∧
        (¬ (6 : Int) ≤ v4_3 →
          ((¬ v4_3 = 0 →
            ((0 ≤ (v4_3 - 1) ∧ (v4_3 - 1) < 6) ∧
            (vc_X2_at σ3 k2 (v4_3 - 1) (fun (z10 : Int) =>
              (0 ≤ v4_3 ∧ v4_3 < 6) ∧
            ((0 ≤ v4_3 ∧ v4_3 < 7) ∧
            ((0 ≤ (v4_3 + 1) ∧ (v4_3 + 1) < 7) ∧
            (((0 ≤ a2 ∧ a2 ≤ 2147483647) ∧ (0 ≤ v4_3 ∧ v4_3 < 32)) ∧
            ((rg ((a2 / 2 ^ v4_3.toNat) % 2)) ∧
            ((¬ ((a2 / 2 ^ v4_3.toNat) % 2) = 1 →
              (∃ n' : Nat, n' < n3 ∧ I3 n' (v4_3 + 1) (upR (up2 σ3 19 v4_3.toNat ((σ3 19 (v4_3 - 1).toNat) + z10)) (12 + (v4_3 + 1).toNat) (cp ((up2 σ3 19 v4_3.toNat ((σ3 19 (v4_3 - 1).toNat) + z10)) (12 + v4_3.toNat)) ((up2 σ3 19 v4_3.toNat ((σ3 19 (v4_3 - 1).toNat) + z10)) (12 + (v4_3 + 1).toNat)) (28 : Int).toNat)))) ∧
            (((a2 / 2 ^ v4_3.toNat) % 2) = 1 →
              (vc_X6_lay (upR (up2 σ3 19 v4_3.toNat ((σ3 19 (v4_3 - 1).toNat) + z10)) (12 + (v4_3 + 1).toNat) (cp ((up2 σ3 19 v4_3.toNat ((σ3 19 (v4_3 - 1).toNat) + z10)) (12 + v4_3.toNat)) ((up2 σ3 19 v4_3.toNat ((σ3 19 (v4_3 - 1).toNat) + z10)) (12 + (v4_3 + 1).toNat)) (28 : Int).toNat)) v4_3 (12 + (v4_3 + 1).toNat) (fun (σ21 : GS) =>
                ∃ n' : Nat, n' < n3 ∧ I3 n' (v4_3 + 1) σ21)))))))))))) ∧
          (v4_3 = 0 →
            ((0 ≤ v4_3 ∧ v4_3 < 6) ∧
            ((0 ≤ v4_3 ∧ v4_3 < 7) ∧
            ((0 ≤ (v4_3 + 1) ∧ (v4_3 + 1) < 7) ∧
            (((0 ≤ a2 ∧ a2 ≤ 2147483647) ∧ (0 ≤ v4_3 ∧ v4_3 < 32)) ∧
            ((rg ((a2 / 2 ^ v4_3.toNat) % 2)) ∧
            ((¬ ((a2 / 2 ^ v4_3.toNat) % 2) = 1 →
              (∃ n' : Nat, n' < n3 ∧ I3 n' (v4_3 + 1) (upR (up2 σ3 19 v4_3.toNat 0) (12 + (v4_3 + 1).toNat) (cp ((up2 σ3 19 v4_3.toNat 0) (12 + v4_3.toNat)) ((up2 σ3 19 v4_3.toNat 0) (12 + (v4_3 + 1).toNat)) (28 : Int).toNat)))) ∧
            (((a2 / 2 ^ v4_3.toNat) % 2) = 1 →
              (vc_X6_lay (upR (up2 σ3 19 v4_3.toNat 0) (12 + (v4_3 + 1).toNat) (cp ((up2 σ3 19 v4_3.toNat 0) (12 + v4_3.toNat)) ((up2 σ3 19 v4_3.toNat 0) (12 + (v4_3 + 1).toNat)) (28 : Int).toNat)) v4_3 (12 + (v4_3 + 1).toNat) (fun (σ34 : GS) =>
                ∃ n' : Nat, n' < n3 ∧ I3 n' (v4_3 + 1) σ34))))))))))))))))))))
set_option maxHeartbeats 4000000 in
set_option maxRecDepth 10000 in
theorem m_X6_layFrom (l : Launch) {ad : Nat → Nat} {D : va_G} {cI cZ cG : ClassId} (hI : Ij ad) {σ : GS} {a0 : Int} {k2 : Nat} {a2 : Int} {Post : GS → Prop} (h : vc_X6_layFrom σ a0 k2 a2 Post) : Met l yX6_layFrom (wX yX6_layFrom cX6_layFrom 5 none) rm_X6_layFrom (va_Pc [.ref (ad 10), .int (iI a0), .ref (ad k2), .int (iI a2)] (Wd ad D cI cZ cG σ)) (QV ad D cI cZ cG Post) 0 0 (Aw ad) := by
  refine met_V (own := RX6) hI (by decide +kernel) rfl (Nat.le_of_ble_eq_true rfl) ?_
  intro p e s m args below meth c C
  unfold vc_X6_layFrom at h
  show V p l e rm_X6_layFrom s m args below meth c ad D cI cZ cG (Aw ad) 5 0 0 (MQ below (QV ad D cI cZ cG Post) args s 0 0 (Aw ad)) σ 0 [(0, .ref (ad 10)), (1, .int (iI a0)), (2, .ref (ad k2)), (3, .int (iI a2))] []
  obtain ⟨hp0, h⟩ := h
  have gk2 := gr_lay hp0
  refine x_aload_n (q := 1) (i := 0) C dX6_layFrom_0 rfl 0 rfl rfl ?_
  refine x_aload_n (q := 2) (i := 0) C dX6_layFrom_1 rfl 0 rfl rfl ?_
  refine x_getR (q := 5) (c0 := 3) C (Nat.le_of_ble_eq_true rfl) ly_10 fk_RX6_20 rfl dX6_layFrom_2 rfl ?_
  refine x_virI (q := 8) C (Nat.le_of_ble_eq_true rfl) ly_3 rfl ck_RX6_38 vk_X1_size (m_X1_size l hI h) ⟨⟨rfl, rfl⟩, ⟨Nat.le_of_ble_eq_true rfl, Nat.le_of_ble_eq_true rfl⟩, ⟨Nat.zero_le _, Nat.zero_le _⟩⟩ dX6_layFrom_5 rfl rfl (Nat.le_of_ble_eq_true rfl) rfl (fun z1 σ1 h => ?_)
  rw [h.1]
  have h := h.2
  refine x_putI (q := 11) C (Nat.le_of_ble_eq_true rfl) ly_10 fk_RX6_44 rfl tyX6 tyX6_ok nmX6 rfl (tyX6_ok 4 (Nat.le_of_ble_eq_true rfl)) dX6_layFrom_8 rfl ?_
  refine x_iconst (q := 12) (z := 0) C dX6_layFrom_11 rfl rfl ?_
  refine x_iload_n (q := 13) (i := 1) C dX6_layFrom_12 rfl 1 rfl rfl ?_
  obtain ⟨o2, h⟩ := h
  refine x_max (q := 16) C t2_100 ⟨t2_66, t1_13, t2_67⟩ ⟨⟨Nat.le_of_ble_eq_true rfl, Nat.le_of_ble_eq_true rfl⟩, ⟨Nat.zero_le _, Nat.zero_le _⟩⟩ dX6_layFrom_13 ⟨by decide, o2⟩ rfl ?_
  refine x_istore (q := 18) (i := 4) (lv' := [(0, .ref (ad 10)), (1, .int (iI a0)), (2, .ref (ad k2)), (3, .int (iI a2)), (4, .int (iI (max 0 a0)))]) C dX6_layFrom_16 (Nat.le_of_ble_eq_true rfl) [1, 2, 3, 4, 0] rfl rfl ?_
  obtain ⟨I3, ⟨n03, h03⟩, hs3⟩ := h
  have L3 : ∀ (n3 : Nat) (v4_3 : Int) (σ3 : GS), I3 n3 v4_3 σ3 → V p l e rm_X6_layFrom s m args below meth c ad D cI cZ cG (Aw ad) 5 0 0 (MQ below (QV ad D cI cZ cG Post) args s 0 0 (Aw ad)) σ3 18 [(0, .ref (ad 10)), (1, .int (iI a0)), (2, .ref (ad k2)), (3, .int (iI a2)), (4, .int (iI v4_3))] [] := by
    intro n3
    induction n3 using Nat.strongRecOn with
    | ind n3 ih3 =>
      intro v4_3 σ3 h
      have h := hs3 n3 v4_3 σ3 h
      refine x_iload (q := 20) C dX6_layFrom_18 4 rfl rfl ?_
      refine x_aload_n (q := 21) (i := 0) C dX6_layFrom_20 rfl 0 rfl rfl ?_
      refine x_getI (q := 24) C (Nat.le_of_ble_eq_true rfl) ly_10 fk_RX6_44 rfl dX6_layFrom_21 rfl ?_
      obtain ⟨o4, h⟩ := h
      obtain ⟨o5, h⟩ := h
      refine x_icmp_ge (q := 27) (tgt := 122) C dX6_layFrom_24 rfl ⟨o4, o5⟩ rfl (fun c6 => ?_) (fun c6 => ?_)
      · have h := h.1 c6
        exact x_vret C dX6_layFrom_122 h
      · have h := h.2 c6
        refine x_iload (q := 29) C dX6_layFrom_27 4 rfl rfl ?_
        refine x_bipush (q := 31) (z := 6) C dX6_layFrom_29 rfl rfl ?_
        refine x_icmp_ge (q := 34) (tgt := 122) C dX6_layFrom_31 rfl ⟨o4, by decide⟩ rfl (fun c7 => ?_) (fun c7 => ?_)
        · have h := h.1 c7
          exact x_vret C dX6_layFrom_122 h
        · have h := h.2 c7
          refine x_aload_n (q := 35) (i := 0) C dX6_layFrom_34 rfl 0 rfl rfl ?_
          refine x_getR (q := 38) (c0 := 19) C (Nat.le_of_ble_eq_true rfl) ly_10 fk_RX6_16 rfl dX6_layFrom_35 rfl ?_
          refine x_iload (q := 40) C dX6_layFrom_38 4 rfl rfl ?_
          refine x_iload (q := 42) C dX6_layFrom_40 4 rfl rfl ?_
          refine x_if_ne (q := 45) (tgt := 49) C dX6_layFrom_42 rfl o4 rfl (fun c8 => ?_) (fun c8 => ?_)
          · have h := h.1 c8
            refine x_aload_n (q := 50) (i := 0) C dX6_layFrom_49 rfl 0 rfl rfl ?_
            refine x_getR (q := 53) (c0 := 19) C (Nat.le_of_ble_eq_true rfl) ly_10 fk_RX6_16 rfl dX6_layFrom_50 rfl ?_
            refine x_iload (q := 55) C dX6_layFrom_53 4 rfl rfl ?_
            refine x_iconst (q := 56) (z := 1) C dX6_layFrom_55 rfl rfl ?_
            refine x_isub (q := 57) C dX6_layFrom_56  rfl ?_
            obtain ⟨o9, h⟩ := h
            refine x_iald (q := 58) C (Nat.le_of_ble_eq_true rfl) ly_19 dX6_layFrom_57 (ix o9 rfl) (Nat.le_of_ble_eq_true rfl) rfl ?_
            refine x_aload_n (q := 59) (i := 2) C dX6_layFrom_58 rfl 2 rfl rfl ?_
            refine x_iload (q := 61) C dX6_layFrom_59 4 rfl rfl ?_
            refine x_iconst (q := 62) (z := 1) C dX6_layFrom_61 rfl rfl ?_
            refine x_isub (q := 63) C dX6_layFrom_62  rfl ?_
            refine x_virI (q := 66) C gk2.2.2.1 gk2.1 rfl ck_RX6_53 vk_X2_at (m_X2_at l hI h) ⟨⟨rfl, rfl⟩, ⟨Nat.le_of_ble_eq_true rfl, Nat.le_of_ble_eq_true rfl⟩, ⟨Nat.zero_le _, Nat.zero_le _⟩⟩ dX6_layFrom_63 rfl rfl (Nat.le_of_ble_eq_true rfl) rfl (fun z10 σ10 h => ?_)
            rw [h.1]
            have h := h.2
            refine x_iadd (q := 67) C dX6_layFrom_66  rfl ?_
            obtain ⟨o11, h⟩ := h
            refine x_iast (q := 68) C (Nat.le_of_ble_eq_true rfl) ly_19 dX6_layFrom_67 (ix o11 rfl) (Nat.le_of_ble_eq_true rfl)  rfl ?_
            refine x_aload_n (q := 69) (i := 0) C dX6_layFrom_68 rfl 0 rfl rfl ?_
            refine x_getR (q := 72) (c0 := 11) C (Nat.le_of_ble_eq_true rfl) ly_10 fk_RX6_11 rfl dX6_layFrom_69 rfl ?_
            refine x_iload (q := 74) C dX6_layFrom_72 4 rfl rfl ?_
            obtain ⟨o12, h⟩ := h
            have r13 := ra_11 (ix o12 rfl)
            refine x_aald (q := 75) C (Nat.le_of_ble_eq_true rfl) ly_11 dX6_layFrom_74 (ix o12 rfl) (Nat.le_of_ble_eq_true rfl) rfl ?_
            refine x_iconst (q := 76) (z := 0) C dX6_layFrom_75 rfl rfl ?_
            refine x_aload_n (q := 77) (i := 0) C dX6_layFrom_76 rfl 0 rfl rfl ?_
            refine x_getR (q := 80) (c0 := 11) C (Nat.le_of_ble_eq_true rfl) ly_10 fk_RX6_11 rfl dX6_layFrom_77 rfl ?_
            refine x_iload (q := 82) C dX6_layFrom_80 4 rfl rfl ?_
            refine x_iconst (q := 83) (z := 1) C dX6_layFrom_82 rfl rfl ?_
            refine x_iadd (q := 84) C dX6_layFrom_83  rfl ?_
            obtain ⟨o14, h⟩ := h
            have r15 := ra_11 (ix o14 rfl)
            refine x_aald (q := 85) C (Nat.le_of_ble_eq_true rfl) ly_11 dX6_layFrom_84 (ix o14 rfl) (Nat.le_of_ble_eq_true rfl) rfl ?_
            refine x_iconst (q := 86) (z := 0) C dX6_layFrom_85 rfl rfl ?_
            refine x_bipush (q := 88) (z := 28) C dX6_layFrom_86 rfl rfl ?_
            refine x_copy (q := 91) C r13.2 r13.1 r15.2 r15.1 ⟨Nat.le_of_ble_eq_true rfl, Nat.le_of_ble_eq_true rfl⟩ t2_105 ⟨t2_107, t2_106, t1_14⟩ ⟨Nat.le_of_ble_eq_true rfl, Nat.le_of_ble_eq_true rfl⟩ dX6_layFrom_88 (by decide) rfl ?_
            refine x_iload_n (q := 92) (i := 3) C dX6_layFrom_91 rfl 3 rfl rfl ?_
            refine x_iload (q := 94) C dX6_layFrom_92 4 rfl rfl ?_
            obtain ⟨o16, h⟩ := h
            refine x_ishr (q := 95) C dX6_layFrom_94 o16 rfl ?_
            refine x_iconst (q := 96) (z := 1) C dX6_layFrom_95 rfl rfl ?_
            refine x_iand1 (q := 97) C dX6_layFrom_96  rfl ?_
            refine x_iconst (q := 98) (z := 1) C dX6_layFrom_97 rfl rfl ?_
            obtain ⟨o17, h⟩ := h
            refine x_icmp_ne (q := 101) (tgt := 116) C dX6_layFrom_98 rfl ⟨o17, by decide⟩ rfl (fun c18 => ?_) (fun c18 => ?_)
            · have h := h.1 c18
              refine x_iinc (q := 119) (z' := v4_3 + 1) (lv' := [(0, .ref (ad 10)), (1, .int (iI a0)), (2, .ref (ad k2)), (3, .int (iI a2)), (4, .int (iI (v4_3 + 1)))]) C dX6_layFrom_116 4 rfl rfl (Nat.le_of_ble_eq_true rfl) [1, 2, 3, 4, 0] rfl rfl ?_
              refine x_goto (tgt := 18) C dX6_layFrom_119 rfl ?_
              obtain ⟨n19, hl20, h⟩ := h
              refine x_sub [0, 1, 2, 3, 4] rfl ?_
              exact ih3 n19 hl20 _ _ h
            · have h := h.2 c18
              refine x_aload_n (q := 102) (i := 0) C dX6_layFrom_101 rfl 0 rfl rfl ?_
              refine x_iload (q := 104) C dX6_layFrom_102 4 rfl rfl ?_
              refine x_aload_n (q := 105) (i := 0) C dX6_layFrom_104 rfl 0 rfl rfl ?_
              refine x_getR (q := 108) (c0 := 11) C (Nat.le_of_ble_eq_true rfl) ly_10 fk_RX6_11 rfl dX6_layFrom_105 rfl ?_
              refine x_iload (q := 110) C dX6_layFrom_108 4 rfl rfl ?_
              refine x_iconst (q := 111) (z := 1) C dX6_layFrom_110 rfl rfl ?_
              refine x_iadd (q := 112) C dX6_layFrom_111  rfl ?_
              refine x_aald (q := 113) C (Nat.le_of_ble_eq_true rfl) ly_11 dX6_layFrom_112 (ix o14 rfl) (Nat.le_of_ble_eq_true rfl) rfl ?_
              refine x_virV (q := 116) C (Nat.le_of_ble_eq_true rfl) ly_10 rfl ck_RX6_65 vk_X6_lay (m_X6_lay l hI h) ⟨⟨rfl, rfl⟩, ⟨Nat.le_of_ble_eq_true rfl, Nat.le_of_ble_eq_true rfl⟩, ⟨Nat.zero_le _, Nat.zero_le _⟩⟩ dX6_layFrom_113 rfl rfl (Nat.le_of_ble_eq_true rfl) rfl (fun σ21 h => ?_)
              refine x_iinc (q := 119) (z' := v4_3 + 1) (lv' := [(0, .ref (ad 10)), (1, .int (iI a0)), (2, .ref (ad k2)), (3, .int (iI a2)), (4, .int (iI (v4_3 + 1)))]) C dX6_layFrom_116 4 rfl rfl (Nat.le_of_ble_eq_true rfl) [1, 2, 3, 4, 0] rfl rfl ?_
              refine x_goto (tgt := 18) C dX6_layFrom_119 rfl ?_
              obtain ⟨n22, hl23, h⟩ := h
              refine x_sub [0, 1, 2, 3, 4] rfl ?_
              exact ih3 n22 hl23 _ _ h
          · have h := h.2 c8
            refine x_iconst (q := 46) (z := 0) C dX6_layFrom_45 rfl rfl ?_
            refine x_goto (tgt := 67) C dX6_layFrom_46 rfl ?_
            obtain ⟨o24, h⟩ := h
            refine x_iast (q := 68) C (Nat.le_of_ble_eq_true rfl) ly_19 dX6_layFrom_67 (ix o24 rfl) (Nat.le_of_ble_eq_true rfl)  rfl ?_
            refine x_aload_n (q := 69) (i := 0) C dX6_layFrom_68 rfl 0 rfl rfl ?_
            refine x_getR (q := 72) (c0 := 11) C (Nat.le_of_ble_eq_true rfl) ly_10 fk_RX6_11 rfl dX6_layFrom_69 rfl ?_
            refine x_iload (q := 74) C dX6_layFrom_72 4 rfl rfl ?_
            obtain ⟨o25, h⟩ := h
            have r26 := ra_11 (ix o25 rfl)
            refine x_aald (q := 75) C (Nat.le_of_ble_eq_true rfl) ly_11 dX6_layFrom_74 (ix o25 rfl) (Nat.le_of_ble_eq_true rfl) rfl ?_
            refine x_iconst (q := 76) (z := 0) C dX6_layFrom_75 rfl rfl ?_
            refine x_aload_n (q := 77) (i := 0) C dX6_layFrom_76 rfl 0 rfl rfl ?_
            refine x_getR (q := 80) (c0 := 11) C (Nat.le_of_ble_eq_true rfl) ly_10 fk_RX6_11 rfl dX6_layFrom_77 rfl ?_
            refine x_iload (q := 82) C dX6_layFrom_80 4 rfl rfl ?_
            refine x_iconst (q := 83) (z := 1) C dX6_layFrom_82 rfl rfl ?_
            refine x_iadd (q := 84) C dX6_layFrom_83  rfl ?_
            obtain ⟨o27, h⟩ := h
            have r28 := ra_11 (ix o27 rfl)
            refine x_aald (q := 85) C (Nat.le_of_ble_eq_true rfl) ly_11 dX6_layFrom_84 (ix o27 rfl) (Nat.le_of_ble_eq_true rfl) rfl ?_
            refine x_iconst (q := 86) (z := 0) C dX6_layFrom_85 rfl rfl ?_
            refine x_bipush (q := 88) (z := 28) C dX6_layFrom_86 rfl rfl ?_
            refine x_copy (q := 91) C r26.2 r26.1 r28.2 r28.1 ⟨Nat.le_of_ble_eq_true rfl, Nat.le_of_ble_eq_true rfl⟩ t2_105 ⟨t2_107, t2_106, t1_14⟩ ⟨Nat.le_of_ble_eq_true rfl, Nat.le_of_ble_eq_true rfl⟩ dX6_layFrom_88 (by decide) rfl ?_
            refine x_iload_n (q := 92) (i := 3) C dX6_layFrom_91 rfl 3 rfl rfl ?_
            refine x_iload (q := 94) C dX6_layFrom_92 4 rfl rfl ?_
            obtain ⟨o29, h⟩ := h
            refine x_ishr (q := 95) C dX6_layFrom_94 o29 rfl ?_
            refine x_iconst (q := 96) (z := 1) C dX6_layFrom_95 rfl rfl ?_
            refine x_iand1 (q := 97) C dX6_layFrom_96  rfl ?_
            refine x_iconst (q := 98) (z := 1) C dX6_layFrom_97 rfl rfl ?_
            obtain ⟨o30, h⟩ := h
            refine x_icmp_ne (q := 101) (tgt := 116) C dX6_layFrom_98 rfl ⟨o30, by decide⟩ rfl (fun c31 => ?_) (fun c31 => ?_)
            · have h := h.1 c31
              refine x_iinc (q := 119) (z' := v4_3 + 1) (lv' := [(0, .ref (ad 10)), (1, .int (iI a0)), (2, .ref (ad k2)), (3, .int (iI a2)), (4, .int (iI (v4_3 + 1)))]) C dX6_layFrom_116 4 rfl rfl (Nat.le_of_ble_eq_true rfl) [1, 2, 3, 4, 0] rfl rfl ?_
              refine x_goto (tgt := 18) C dX6_layFrom_119 rfl ?_
              obtain ⟨n32, hl33, h⟩ := h
              refine x_sub [0, 1, 2, 3, 4] rfl ?_
              exact ih3 n32 hl33 _ _ h
            · have h := h.2 c31
              refine x_aload_n (q := 102) (i := 0) C dX6_layFrom_101 rfl 0 rfl rfl ?_
              refine x_iload (q := 104) C dX6_layFrom_102 4 rfl rfl ?_
              refine x_aload_n (q := 105) (i := 0) C dX6_layFrom_104 rfl 0 rfl rfl ?_
              refine x_getR (q := 108) (c0 := 11) C (Nat.le_of_ble_eq_true rfl) ly_10 fk_RX6_11 rfl dX6_layFrom_105 rfl ?_
              refine x_iload (q := 110) C dX6_layFrom_108 4 rfl rfl ?_
              refine x_iconst (q := 111) (z := 1) C dX6_layFrom_110 rfl rfl ?_
              refine x_iadd (q := 112) C dX6_layFrom_111  rfl ?_
              refine x_aald (q := 113) C (Nat.le_of_ble_eq_true rfl) ly_11 dX6_layFrom_112 (ix o27 rfl) (Nat.le_of_ble_eq_true rfl) rfl ?_
              refine x_virV (q := 116) C (Nat.le_of_ble_eq_true rfl) ly_10 rfl ck_RX6_65 vk_X6_lay (m_X6_lay l hI h) ⟨⟨rfl, rfl⟩, ⟨Nat.le_of_ble_eq_true rfl, Nat.le_of_ble_eq_true rfl⟩, ⟨Nat.zero_le _, Nat.zero_le _⟩⟩ dX6_layFrom_113 rfl rfl (Nat.le_of_ble_eq_true rfl) rfl (fun σ34 h => ?_)
              refine x_iinc (q := 119) (z' := v4_3 + 1) (lv' := [(0, .ref (ad 10)), (1, .int (iI a0)), (2, .ref (ad k2)), (3, .int (iI a2)), (4, .int (iI (v4_3 + 1)))]) C dX6_layFrom_116 4 rfl rfl (Nat.le_of_ble_eq_true rfl) [1, 2, 3, 4, 0] rfl rfl ?_
              refine x_goto (tgt := 18) C dX6_layFrom_119 rfl ?_
              obtain ⟨n35, hl36, h⟩ := h
              refine x_sub [0, 1, 2, 3, 4] rfl ?_
              exact ih3 n35 hl36 _ _ h
  exact L3 n03 (max 0 a0) (up2 σ 10 4 z1) h03
abbrev rm_X6_layAll : Room := { frames := 3, cells := 0, slots := 0, locals := 71 }
def vc_X6_layAll (σ : GS) (k1 : Nat) (a1 : Int) (Post : GS → Prop) : Prop :=
  (k1 = 6 ∨ k1 = 8) ∧
  (vc_X6_layFrom (up2 σ 10 3 a1) 0 k1 63 (fun (σ1 : GS) =>
    Post σ1))
set_option maxHeartbeats 4000000 in
set_option maxRecDepth 10000 in
theorem m_X6_layAll (l : Launch) {ad : Nat → Nat} {D : va_G} {cI cZ cG : ClassId} (hI : Ij ad) {σ : GS} {k1 : Nat} {a1 : Int} {Post : GS → Prop} (h : vc_X6_layAll σ k1 a1 Post) : Met l yX6_layAll (wX yX6_layAll cX6_layAll 3 none) rm_X6_layAll (va_Pc [.ref (ad 10), .ref (ad k1), .int (iI a1)] (Wd ad D cI cZ cG σ)) (QV ad D cI cZ cG Post) 0 0 (Aw ad) := by
  refine met_V (own := RX6) hI (by decide +kernel) rfl (Nat.le_of_ble_eq_true rfl) ?_
  intro p e s m args below meth c C
  unfold vc_X6_layAll at h
  show V p l e rm_X6_layAll s m args below meth c ad D cI cZ cG (Aw ad) 3 0 0 (MQ below (QV ad D cI cZ cG Post) args s 0 0 (Aw ad)) σ 0 [(0, .ref (ad 10)), (1, .ref (ad k1)), (2, .int (iI a1))] []
  obtain ⟨hp0, h⟩ := h
  have gk1 := gr_lay hp0
  refine x_aload_n (q := 1) (i := 0) C dX6_layAll_0 rfl 0 rfl rfl ?_
  refine x_iload_n (q := 2) (i := 2) C dX6_layAll_1 rfl 2 rfl rfl ?_
  refine x_putI (q := 5) C (Nat.le_of_ble_eq_true rfl) ly_10 fk_RX6_30 rfl tyX6 tyX6_ok nmX6 rfl (tyX6_ok 3 (Nat.le_of_ble_eq_true rfl)) dX6_layAll_2 rfl ?_
  refine x_aload_n (q := 6) (i := 0) C dX6_layAll_5 rfl 0 rfl rfl ?_
  refine x_iconst (q := 7) (z := 0) C dX6_layAll_6 rfl rfl ?_
  refine x_aload_n (q := 8) (i := 1) C dX6_layAll_7 rfl 1 rfl rfl ?_
  refine x_bipush (q := 10) (z := 63) C dX6_layAll_8 rfl rfl ?_
  refine x_virV (q := 13) C (Nat.le_of_ble_eq_true rfl) ly_10 rfl ck_RX6_34 vk_X6_layFrom (m_X6_layFrom l hI h) ⟨⟨rfl, rfl⟩, ⟨Nat.le_of_ble_eq_true rfl, Nat.le_of_ble_eq_true rfl⟩, ⟨Nat.zero_le _, Nat.zero_le _⟩⟩ dX6_layAll_10 rfl rfl (Nat.le_of_ble_eq_true rfl) rfl (fun σ1 h => ?_)
  exact x_vret C dX6_layAll_13 h
abbrev rm_X6_layStaying : Room := { frames := 3, cells := 0, slots := 0, locals := 71 }
def vc_X6_layStaying (σ : GS) (k1 : Nat) (a1 : Int) (a2 : Int) (Post : GS → Prop) : Prop :=
  (k1 = 6 ∨ k1 = 8) ∧
  (vc_X6_layFrom (up2 σ 10 3 a1) 0 k1 a2 (fun (σ1 : GS) =>
    Post σ1))
set_option maxHeartbeats 4000000 in
set_option maxRecDepth 10000 in
theorem m_X6_layStaying (l : Launch) {ad : Nat → Nat} {D : va_G} {cI cZ cG : ClassId} (hI : Ij ad) {σ : GS} {k1 : Nat} {a1 : Int} {a2 : Int} {Post : GS → Prop} (h : vc_X6_layStaying σ k1 a1 a2 Post) : Met l yX6_layStaying (wX yX6_layStaying cX6_layStaying 4 none) rm_X6_layStaying (va_Pc [.ref (ad 10), .ref (ad k1), .int (iI a1), .int (iI a2)] (Wd ad D cI cZ cG σ)) (QV ad D cI cZ cG Post) 0 0 (Aw ad) := by
  refine met_V (own := RX6) hI (by decide +kernel) rfl (Nat.le_of_ble_eq_true rfl) ?_
  intro p e s m args below meth c C
  unfold vc_X6_layStaying at h
  show V p l e rm_X6_layStaying s m args below meth c ad D cI cZ cG (Aw ad) 4 0 0 (MQ below (QV ad D cI cZ cG Post) args s 0 0 (Aw ad)) σ 0 [(0, .ref (ad 10)), (1, .ref (ad k1)), (2, .int (iI a1)), (3, .int (iI a2))] []
  obtain ⟨hp0, h⟩ := h
  have gk1 := gr_lay hp0
  refine x_aload_n (q := 1) (i := 0) C dX6_layStaying_0 rfl 0 rfl rfl ?_
  refine x_iload_n (q := 2) (i := 2) C dX6_layStaying_1 rfl 2 rfl rfl ?_
  refine x_putI (q := 5) C (Nat.le_of_ble_eq_true rfl) ly_10 fk_RX6_30 rfl tyX6 tyX6_ok nmX6 rfl (tyX6_ok 3 (Nat.le_of_ble_eq_true rfl)) dX6_layStaying_2 rfl ?_
  refine x_aload_n (q := 6) (i := 0) C dX6_layStaying_5 rfl 0 rfl rfl ?_
  refine x_iconst (q := 7) (z := 0) C dX6_layStaying_6 rfl rfl ?_
  refine x_aload_n (q := 8) (i := 1) C dX6_layStaying_7 rfl 1 rfl rfl ?_
  refine x_iload_n (q := 9) (i := 3) C dX6_layStaying_8 rfl 3 rfl rfl ?_
  refine x_virV (q := 12) C (Nat.le_of_ble_eq_true rfl) ly_10 rfl ck_RX6_34 vk_X6_layFrom (m_X6_layFrom l hI h) ⟨⟨rfl, rfl⟩, ⟨Nat.le_of_ble_eq_true rfl, Nat.le_of_ble_eq_true rfl⟩, ⟨Nat.zero_le _, Nat.zero_le _⟩⟩ dX6_layStaying_9 rfl rfl (Nat.le_of_ble_eq_true rfl) rfl (fun σ1 h => ?_)
  exact x_vret C dX6_layStaying_12 h
abbrev rm_X6_reach : Room := { frames := 1, cells := 0, slots := 0, locals := 26 }
def vc_X6_reach (σ : GS)  (Post : Int → Prop) : Prop :=
  (rg (σ 10 4)) ∧
  ((¬ (σ 10 4) = 0 →
    ((0 ≤ ((σ 10 4) - 1) ∧ ((σ 10 4) - 1) < 6) ∧
    ((rg ((σ 19 ((σ 10 4) - 1).toNat) + 4)) ∧
    (Post (min 28 ((σ 19 ((σ 10 4) - 1).toNat) + 4)))))) ∧
  ((σ 10 4) = 0 →
    (Post 0)))
set_option maxHeartbeats 4000000 in
set_option maxRecDepth 10000 in
theorem m_X6_reach (l : Launch) {ad : Nat → Nat} {D : va_G} {cI cZ cG : ClassId} (hI : Ij ad) {σ : GS}  {Post : Int → Prop} (h : vc_X6_reach σ  Post) : Met l yX6_reach (wX yX6_reach cX6_reach 1 (some .int)) rm_X6_reach (va_Pc [.ref (ad 10)] (Wd ad D cI cZ cG σ)) (QI ad D cI cZ cG (fun z u => u = σ ∧ Post z)) 0 0 (Aw ad) := by
  refine met_V (own := RX6) hI (by decide +kernel) rfl (Nat.le_of_ble_eq_true rfl) ?_
  intro p e s m args below meth c C
  unfold vc_X6_reach at h
  show V p l e rm_X6_reach s m args below meth c ad D cI cZ cG (Aw ad) 1 0 0 (MQ below (QI ad D cI cZ cG (fun z u => u = σ ∧ Post z)) args s 0 0 (Aw ad)) σ 0 [(0, .ref (ad 10))] []
  refine x_aload_n (q := 1) (i := 0) C dX6_reach_0 rfl 0 rfl rfl ?_
  refine x_getI (q := 4) C (Nat.le_of_ble_eq_true rfl) ly_10 fk_RX6_44 rfl dX6_reach_1 rfl ?_
  obtain ⟨o1, h⟩ := h
  refine x_if_ne (q := 7) (tgt := 11) C dX6_reach_4 rfl o1 rfl (fun c2 => ?_) (fun c2 => ?_)
  · have h := h.1 c2
    refine x_bipush (q := 13) (z := 28) C dX6_reach_11 rfl rfl ?_
    refine x_aload_n (q := 14) (i := 0) C dX6_reach_13 rfl 0 rfl rfl ?_
    refine x_getR (q := 17) (c0 := 19) C (Nat.le_of_ble_eq_true rfl) ly_10 fk_RX6_16 rfl dX6_reach_14 rfl ?_
    refine x_aload_n (q := 18) (i := 0) C dX6_reach_17 rfl 0 rfl rfl ?_
    refine x_getI (q := 21) C (Nat.le_of_ble_eq_true rfl) ly_10 fk_RX6_44 rfl dX6_reach_18 rfl ?_
    refine x_iconst (q := 22) (z := 1) C dX6_reach_21 rfl rfl ?_
    refine x_isub (q := 23) C dX6_reach_22  rfl ?_
    obtain ⟨o3, h⟩ := h
    refine x_iald (q := 24) C (Nat.le_of_ble_eq_true rfl) ly_19 dX6_reach_23 (ix o3 rfl) (Nat.le_of_ble_eq_true rfl) rfl ?_
    refine x_iconst (q := 25) (z := 4) C dX6_reach_24 rfl rfl ?_
    refine x_iadd (q := 26) C dX6_reach_25  rfl ?_
    obtain ⟨o4, h⟩ := h
    refine x_min (q := 29) C t2_135 ⟨t2_17, t1_13, t2_18⟩ ⟨⟨Nat.le_of_ble_eq_true rfl, Nat.le_of_ble_eq_true rfl⟩, ⟨Nat.zero_le _, Nat.zero_le _⟩⟩ dX6_reach_26 ⟨by decide, o4⟩ rfl ?_
    exact x_iret C dX6_reach_29 ⟨rfl, h⟩
  · have h := h.2 c2
    refine x_iconst (q := 8) (z := 0) C dX6_reach_7 rfl rfl ?_
    refine x_goto (tgt := 29) C dX6_reach_8 rfl ?_
    exact x_iret C dX6_reach_29 ⟨rfl, h⟩
abbrev rm_X6_bladeAt : Room := { frames := 1, cells := 0, slots := 0, locals := 21 }
def vc_X6_bladeAt (σ : GS) (a0 : Int) (Post : Int → Prop) : Prop :=
  vc_X6_markAt σ a0 (fun (z1 : Int) =>
    (rg z1) ∧
  (((0 : Int) ≤ z1 →
    ((0 ≤ z1 ∧ z1 ≤ 2147483647) ∧
    (Post (z1 / 8)))) ∧
  (¬ (0 : Int) ≤ z1 →
    (Post (-9)))))
set_option maxHeartbeats 4000000 in
set_option maxRecDepth 10000 in
theorem m_X6_bladeAt (l : Launch) {ad : Nat → Nat} {D : va_G} {cI cZ cG : ClassId} (hI : Ij ad) {σ : GS} {a0 : Int} {Post : Int → Prop} (h : vc_X6_bladeAt σ a0 Post) : Met l yX6_bladeAt (wX yX6_bladeAt cX6_bladeAt 3 (some .int)) rm_X6_bladeAt (va_Pc [.ref (ad 10), .int (iI a0)] (Wd ad D cI cZ cG σ)) (QI ad D cI cZ cG (fun z u => u = σ ∧ Post z)) 0 0 (Aw ad) := by
  refine met_V (own := RX6) hI (by decide +kernel) rfl (Nat.le_of_ble_eq_true rfl) ?_
  intro p e s m args below meth c C
  unfold vc_X6_bladeAt at h
  show V p l e rm_X6_bladeAt s m args below meth c ad D cI cZ cG (Aw ad) 3 0 0 (MQ below (QI ad D cI cZ cG (fun z u => u = σ ∧ Post z)) args s 0 0 (Aw ad)) σ 0 [(0, .ref (ad 10)), (1, .int (iI a0))] []
  refine x_aload_n (q := 1) (i := 0) C dX6_bladeAt_0 rfl 0 rfl rfl ?_
  refine x_iload_n (q := 2) (i := 1) C dX6_bladeAt_1 rfl 1 rfl rfl ?_
  refine x_virI (q := 5) C (Nat.le_of_ble_eq_true rfl) ly_10 rfl ck_RX6_87 vk_X6_markAt (m_X6_markAt l hI h) ⟨⟨rfl, rfl⟩, ⟨Nat.le_of_ble_eq_true rfl, Nat.le_of_ble_eq_true rfl⟩, ⟨Nat.zero_le _, Nat.zero_le _⟩⟩ dX6_bladeAt_2 rfl rfl (Nat.le_of_ble_eq_true rfl) rfl (fun z1 σ1 h => ?_)
  rw [h.1]
  have h := h.2
  refine x_istore_n (q := 6) (i := 2) (lv' := [(0, .ref (ad 10)), (1, .int (iI a0)), (2, .int (iI z1))]) C dX6_bladeAt_5 rfl (Nat.le_of_ble_eq_true rfl) [1, 2, 0] rfl rfl ?_
  refine x_iload_n (q := 7) (i := 2) C dX6_bladeAt_6 rfl 2 rfl rfl ?_
  obtain ⟨o2, h⟩ := h
  refine x_if_ge (q := 10) (tgt := 15) C dX6_bladeAt_7 rfl o2 rfl (fun c3 => ?_) (fun c3 => ?_)
  · have h := h.1 c3
    refine x_iload_n (q := 16) (i := 2) C dX6_bladeAt_15 rfl 2 rfl rfl ?_
    refine x_bipush (q := 18) (z := 8) C dX6_bladeAt_16 rfl rfl ?_
    obtain ⟨o4, h⟩ := h
    refine x_idiv (q := 19) C dX6_bladeAt_18 ⟨o4, by decide⟩ rfl ?_
    exact x_iret C dX6_bladeAt_19 ⟨rfl, h⟩
  · have h := h.2 c3
    refine x_bipush (q := 12) (z := (-9)) C dX6_bladeAt_10 rfl rfl ?_
    refine x_goto (tgt := 19) C dX6_bladeAt_12 rfl ?_
    exact x_iret C dX6_bladeAt_19 ⟨rfl, h⟩
abbrev rm_X6_cellsSeen : Room := { frames := 2, cells := 0, slots := 0, locals := 46 }
def vc_X6_cellsSeen (σ : GS) (a0 : Int) (Post : Int → Prop) : Prop :=
  vc_X6_reach σ  (fun (z1 : Int) =>
    ∃ I2 : Nat → Int → Int → Prop, (∃ n : Nat, I2 n 0 0) ∧ ∀ (n2 : Nat) (v2_2 : Int) (v4_2 : Int), I2 n2 v2_2 v4_2 →
  ((rg v4_2) ∧
      ((rg z1) ∧
      ((z1 ≤ v4_2 →
        (Post v2_2)) ∧
      (¬ z1 ≤ v4_2 →
        (vc_X6_bladeAt σ v4_2 (fun (z6 : Int) =>
          (rg z6) ∧
        ((rg a0) ∧
        ((¬ z6 = a0 →
          (∃ n' : Nat, n' < n2 ∧ I2 n' v2_2 (v4_2 + 1))) ∧
        (z6 = a0 →
          (∃ n' : Nat, n' < n2 ∧ I2 n' (v2_2 + 1) (v4_2 + 1))))))))))))
set_option maxHeartbeats 4000000 in
set_option maxRecDepth 10000 in
theorem m_X6_cellsSeen (l : Launch) {ad : Nat → Nat} {D : va_G} {cI cZ cG : ClassId} (hI : Ij ad) {σ : GS} {a0 : Int} {Post : Int → Prop} (h : vc_X6_cellsSeen σ a0 Post) : Met l yX6_cellsSeen (wX yX6_cellsSeen cX6_cellsSeen 5 (some .int)) rm_X6_cellsSeen (va_Pc [.ref (ad 10), .int (iI a0)] (Wd ad D cI cZ cG σ)) (QI ad D cI cZ cG (fun z u => u = σ ∧ Post z)) 0 0 (Aw ad) := by
  refine met_V (own := RX6) hI (by decide +kernel) rfl (Nat.le_of_ble_eq_true rfl) ?_
  intro p e s m args below meth c C
  unfold vc_X6_cellsSeen at h
  show V p l e rm_X6_cellsSeen s m args below meth c ad D cI cZ cG (Aw ad) 5 0 0 (MQ below (QI ad D cI cZ cG (fun z u => u = σ ∧ Post z)) args s 0 0 (Aw ad)) σ 0 [(0, .ref (ad 10)), (1, .int (iI a0))] []
  refine x_iconst (q := 1) (z := 0) C dX6_cellsSeen_0 rfl rfl ?_
  refine x_istore_n (q := 2) (i := 2) (lv' := [(0, .ref (ad 10)), (1, .int (iI a0)), (2, .int (iI 0))]) C dX6_cellsSeen_1 rfl (Nat.le_of_ble_eq_true rfl) [1, 2, 0] rfl rfl ?_
  refine x_aload_n (q := 3) (i := 0) C dX6_cellsSeen_2 rfl 0 rfl rfl ?_
  refine x_virI (q := 6) C (Nat.le_of_ble_eq_true rfl) ly_10 rfl ck_RX6_93 vk_X6_reach (m_X6_reach l hI h) ⟨⟨rfl, rfl⟩, ⟨Nat.le_of_ble_eq_true rfl, Nat.le_of_ble_eq_true rfl⟩, ⟨Nat.zero_le _, Nat.zero_le _⟩⟩ dX6_cellsSeen_3 rfl rfl (Nat.le_of_ble_eq_true rfl) rfl (fun z1 σ1 h => ?_)
  rw [h.1]
  have h := h.2
  refine x_istore_n (q := 7) (i := 3) (lv' := [(0, .ref (ad 10)), (1, .int (iI a0)), (2, .int (iI 0)), (3, .int (iI z1))]) C dX6_cellsSeen_6 rfl (Nat.le_of_ble_eq_true rfl) [1, 2, 3, 0] rfl rfl ?_
  refine x_iconst (q := 8) (z := 0) C dX6_cellsSeen_7 rfl rfl ?_
  refine x_istore (q := 10) (i := 4) (lv' := [(0, .ref (ad 10)), (1, .int (iI a0)), (2, .int (iI 0)), (3, .int (iI z1)), (4, .int (iI 0))]) C dX6_cellsSeen_8 (Nat.le_of_ble_eq_true rfl) [1, 2, 3, 4, 0] rfl rfl ?_
  obtain ⟨I2, ⟨n02, h02⟩, hs2⟩ := h
  have L2 : ∀ (n2 : Nat) (v2_2 : Int) (v4_2 : Int), I2 n2 v2_2 v4_2 → V p l e rm_X6_cellsSeen s m args below meth c ad D cI cZ cG (Aw ad) 5 0 0 (MQ below (QI ad D cI cZ cG (fun z u => u = σ ∧ Post z)) args s 0 0 (Aw ad)) σ 10 [(0, .ref (ad 10)), (1, .int (iI a0)), (2, .int (iI v2_2)), (3, .int (iI z1)), (4, .int (iI v4_2))] [] := by
    intro n2
    induction n2 using Nat.strongRecOn with
    | ind n2 ih2 =>
      intro v2_2 v4_2 h
      have h := hs2 n2 v2_2 v4_2 h
      refine x_iload (q := 12) C dX6_cellsSeen_10 4 rfl rfl ?_
      refine x_iload_n (q := 13) (i := 3) C dX6_cellsSeen_12 rfl 3 rfl rfl ?_
      obtain ⟨o3, h⟩ := h
      obtain ⟨o4, h⟩ := h
      refine x_icmp_ge (q := 16) (tgt := 35) C dX6_cellsSeen_13 rfl ⟨o3, o4⟩ rfl (fun c5 => ?_) (fun c5 => ?_)
      · have h := h.1 c5
        refine x_iload_n (q := 36) (i := 2) C dX6_cellsSeen_35 rfl 2 rfl rfl ?_
        exact x_iret C dX6_cellsSeen_36 ⟨rfl, h⟩
      · have h := h.2 c5
        refine x_aload_n (q := 17) (i := 0) C dX6_cellsSeen_16 rfl 0 rfl rfl ?_
        refine x_iload (q := 19) C dX6_cellsSeen_17 4 rfl rfl ?_
        refine x_virI (q := 22) C (Nat.le_of_ble_eq_true rfl) ly_10 rfl ck_RX6_96 vk_X6_bladeAt (m_X6_bladeAt l hI h) ⟨⟨rfl, rfl⟩, ⟨Nat.le_of_ble_eq_true rfl, Nat.le_of_ble_eq_true rfl⟩, ⟨Nat.zero_le _, Nat.zero_le _⟩⟩ dX6_cellsSeen_19 rfl rfl (Nat.le_of_ble_eq_true rfl) rfl (fun z6 σ6 h => ?_)
        rw [h.1]
        have h := h.2
        refine x_iload_n (q := 23) (i := 1) C dX6_cellsSeen_22 rfl 1 rfl rfl ?_
        obtain ⟨o7, h⟩ := h
        obtain ⟨o8, h⟩ := h
        refine x_icmp_ne (q := 26) (tgt := 29) C dX6_cellsSeen_23 rfl ⟨o7, o8⟩ rfl (fun c9 => ?_) (fun c9 => ?_)
        · have h := h.1 c9
          refine x_iinc (q := 32) (z' := v4_2 + 1) (lv' := [(0, .ref (ad 10)), (1, .int (iI a0)), (2, .int (iI v2_2)), (3, .int (iI z1)), (4, .int (iI (v4_2 + 1)))]) C dX6_cellsSeen_29 4 rfl rfl (Nat.le_of_ble_eq_true rfl) [1, 2, 3, 4, 0] rfl rfl ?_
          refine x_goto (tgt := 10) C dX6_cellsSeen_32 rfl ?_
          obtain ⟨n10, hl11, h⟩ := h
          refine x_sub [0, 1, 2, 3, 4] rfl ?_
          exact ih2 n10 hl11 _ _ h
        · have h := h.2 c9
          refine x_iinc (q := 29) (z' := v2_2 + 1) (lv' := [(0, .ref (ad 10)), (1, .int (iI a0)), (2, .int (iI (v2_2 + 1))), (3, .int (iI z1)), (4, .int (iI v4_2))]) C dX6_cellsSeen_26 2 rfl rfl (Nat.le_of_ble_eq_true rfl) [1, 2, 0, 3, 4] rfl rfl ?_
          refine x_iinc (q := 32) (z' := v4_2 + 1) (lv' := [(0, .ref (ad 10)), (1, .int (iI a0)), (2, .int (iI (v2_2 + 1))), (3, .int (iI z1)), (4, .int (iI (v4_2 + 1)))]) C dX6_cellsSeen_29 4 rfl rfl (Nat.le_of_ble_eq_true rfl) [1, 2, 3, 4, 0] rfl rfl ?_
          refine x_goto (tgt := 10) C dX6_cellsSeen_32 rfl ?_
          obtain ⟨n12, hl13, h⟩ := h
          refine x_sub [0, 1, 2, 3, 4] rfl ?_
          exact ih2 n12 hl13 _ _ h
  exact L2 n02 0 0 h02
abbrev rm_X6_placesSeen : Room := { frames := 2, cells := 0, slots := 0, locals := 46 }
def vc_X6_placesSeen (σ : GS)  (Post : Int → Prop) : Prop :=
  vc_X6_reach σ  (fun (z1 : Int) =>
    ∃ I2 : Nat → Int → Int → Prop, (∃ n : Nat, I2 n 0 0) ∧ ∀ (n2 : Nat) (v1_2 : Int) (v3_2 : Int), I2 n2 v1_2 v3_2 →
  ((rg v3_2) ∧
      ((rg z1) ∧
      ((z1 ≤ v3_2 →
        (Post v1_2)) ∧
      (¬ z1 ≤ v3_2 →
        (vc_X6_markAt σ v3_2 (fun (z6 : Int) =>
          (rg z6) ∧
        ((z6 < 0 →
          (∃ n' : Nat, n' < n2 ∧ I2 n' v1_2 (v3_2 + 1))) ∧
        (¬ z6 < 0 →
          (∃ n' : Nat, n' < n2 ∧ I2 n' (v1_2 + 1) (v3_2 + 1)))))))))))
set_option maxHeartbeats 4000000 in
set_option maxRecDepth 10000 in
theorem m_X6_placesSeen (l : Launch) {ad : Nat → Nat} {D : va_G} {cI cZ cG : ClassId} (hI : Ij ad) {σ : GS}  {Post : Int → Prop} (h : vc_X6_placesSeen σ  Post) : Met l yX6_placesSeen (wX yX6_placesSeen cX6_placesSeen 4 (some .int)) rm_X6_placesSeen (va_Pc [.ref (ad 10)] (Wd ad D cI cZ cG σ)) (QI ad D cI cZ cG (fun z u => u = σ ∧ Post z)) 0 0 (Aw ad) := by
  refine met_V (own := RX6) hI (by decide +kernel) rfl (Nat.le_of_ble_eq_true rfl) ?_
  intro p e s m args below meth c C
  unfold vc_X6_placesSeen at h
  show V p l e rm_X6_placesSeen s m args below meth c ad D cI cZ cG (Aw ad) 4 0 0 (MQ below (QI ad D cI cZ cG (fun z u => u = σ ∧ Post z)) args s 0 0 (Aw ad)) σ 0 [(0, .ref (ad 10))] []
  refine x_iconst (q := 1) (z := 0) C dX6_placesSeen_0 rfl rfl ?_
  refine x_istore_n (q := 2) (i := 1) (lv' := [(0, .ref (ad 10)), (1, .int (iI 0))]) C dX6_placesSeen_1 rfl (Nat.le_of_ble_eq_true rfl) [1, 0] rfl rfl ?_
  refine x_aload_n (q := 3) (i := 0) C dX6_placesSeen_2 rfl 0 rfl rfl ?_
  refine x_virI (q := 6) C (Nat.le_of_ble_eq_true rfl) ly_10 rfl ck_RX6_93 vk_X6_reach (m_X6_reach l hI h) ⟨⟨rfl, rfl⟩, ⟨Nat.le_of_ble_eq_true rfl, Nat.le_of_ble_eq_true rfl⟩, ⟨Nat.zero_le _, Nat.zero_le _⟩⟩ dX6_placesSeen_3 rfl rfl (Nat.le_of_ble_eq_true rfl) rfl (fun z1 σ1 h => ?_)
  rw [h.1]
  have h := h.2
  refine x_istore_n (q := 7) (i := 2) (lv' := [(0, .ref (ad 10)), (1, .int (iI 0)), (2, .int (iI z1))]) C dX6_placesSeen_6 rfl (Nat.le_of_ble_eq_true rfl) [1, 2, 0] rfl rfl ?_
  refine x_iconst (q := 8) (z := 0) C dX6_placesSeen_7 rfl rfl ?_
  refine x_istore_n (q := 9) (i := 3) (lv' := [(0, .ref (ad 10)), (1, .int (iI 0)), (2, .int (iI z1)), (3, .int (iI 0))]) C dX6_placesSeen_8 rfl (Nat.le_of_ble_eq_true rfl) [1, 2, 3, 0] rfl rfl ?_
  obtain ⟨I2, ⟨n02, h02⟩, hs2⟩ := h
  have L2 : ∀ (n2 : Nat) (v1_2 : Int) (v3_2 : Int), I2 n2 v1_2 v3_2 → V p l e rm_X6_placesSeen s m args below meth c ad D cI cZ cG (Aw ad) 4 0 0 (MQ below (QI ad D cI cZ cG (fun z u => u = σ ∧ Post z)) args s 0 0 (Aw ad)) σ 9 [(0, .ref (ad 10)), (1, .int (iI v1_2)), (2, .int (iI z1)), (3, .int (iI v3_2))] [] := by
    intro n2
    induction n2 using Nat.strongRecOn with
    | ind n2 ih2 =>
      intro v1_2 v3_2 h
      have h := hs2 n2 v1_2 v3_2 h
      refine x_iload_n (q := 10) (i := 3) C dX6_placesSeen_9 rfl 3 rfl rfl ?_
      refine x_iload_n (q := 11) (i := 2) C dX6_placesSeen_10 rfl 2 rfl rfl ?_
      obtain ⟨o3, h⟩ := h
      obtain ⟨o4, h⟩ := h
      refine x_icmp_ge (q := 14) (tgt := 31) C dX6_placesSeen_11 rfl ⟨o3, o4⟩ rfl (fun c5 => ?_) (fun c5 => ?_)
      · have h := h.1 c5
        refine x_iload_n (q := 32) (i := 1) C dX6_placesSeen_31 rfl 1 rfl rfl ?_
        exact x_iret C dX6_placesSeen_32 ⟨rfl, h⟩
      · have h := h.2 c5
        refine x_aload_n (q := 15) (i := 0) C dX6_placesSeen_14 rfl 0 rfl rfl ?_
        refine x_iload_n (q := 16) (i := 3) C dX6_placesSeen_15 rfl 3 rfl rfl ?_
        refine x_virI (q := 19) C (Nat.le_of_ble_eq_true rfl) ly_10 rfl ck_RX6_87 vk_X6_markAt (m_X6_markAt l hI h) ⟨⟨rfl, rfl⟩, ⟨Nat.le_of_ble_eq_true rfl, Nat.le_of_ble_eq_true rfl⟩, ⟨Nat.zero_le _, Nat.zero_le _⟩⟩ dX6_placesSeen_16 rfl rfl (Nat.le_of_ble_eq_true rfl) rfl (fun z6 σ6 h => ?_)
        rw [h.1]
        have h := h.2
        obtain ⟨o7, h⟩ := h
        refine x_if_lt (q := 22) (tgt := 25) C dX6_placesSeen_19 rfl o7 rfl (fun c8 => ?_) (fun c8 => ?_)
        · have h := h.1 c8
          refine x_iinc (q := 28) (z' := v3_2 + 1) (lv' := [(0, .ref (ad 10)), (1, .int (iI v1_2)), (2, .int (iI z1)), (3, .int (iI (v3_2 + 1)))]) C dX6_placesSeen_25 3 rfl rfl (Nat.le_of_ble_eq_true rfl) [1, 2, 3, 0] rfl rfl ?_
          refine x_goto (tgt := 9) C dX6_placesSeen_28 rfl ?_
          obtain ⟨n9, hl10, h⟩ := h
          refine x_sub [0, 1, 2, 3] rfl ?_
          exact ih2 n9 hl10 _ _ h
        · have h := h.2 c8
          refine x_iinc (q := 25) (z' := v1_2 + 1) (lv' := [(0, .ref (ad 10)), (1, .int (iI (v1_2 + 1))), (2, .int (iI z1)), (3, .int (iI v3_2))]) C dX6_placesSeen_22 1 rfl rfl (Nat.le_of_ble_eq_true rfl) [1, 0, 2, 3] rfl rfl ?_
          refine x_iinc (q := 28) (z' := v3_2 + 1) (lv' := [(0, .ref (ad 10)), (1, .int (iI (v1_2 + 1))), (2, .int (iI z1)), (3, .int (iI (v3_2 + 1)))]) C dX6_placesSeen_25 3 rfl rfl (Nat.le_of_ble_eq_true rfl) [1, 2, 3, 0] rfl rfl ?_
          refine x_goto (tgt := 9) C dX6_placesSeen_28 rfl ?_
          obtain ⟨n11, hl12, h⟩ := h
          refine x_sub [0, 1, 2, 3] rfl ?_
          exact ih2 n11 hl12 _ _ h
  exact L2 n02 0 0 h02
abbrev rm_X6_placesWith : Room := { frames := 2, cells := 0, slots := 0, locals := 46 }
def vc_X6_placesWith (σ : GS) (a0 : Int) (Post : Int → Prop) : Prop :=
  vc_X6_reach σ  (fun (z1 : Int) =>
    ∃ I2 : Nat → Int → Int → Prop, (∃ n : Nat, I2 n 0 0) ∧ ∀ (n2 : Nat) (v2_2 : Int) (v4_2 : Int), I2 n2 v2_2 v4_2 →
  ((rg v4_2) ∧
      ((rg z1) ∧
      ((z1 ≤ v4_2 →
        (Post v2_2)) ∧
      (¬ z1 ≤ v4_2 →
        (vc_X6_letterAt σ v4_2 (fun (z6 : Int) =>
          (rg z6) ∧
        ((rg a0) ∧
        ((¬ z6 = a0 →
          (∃ n' : Nat, n' < n2 ∧ I2 n' v2_2 (v4_2 + 1))) ∧
        (z6 = a0 →
          (∃ n' : Nat, n' < n2 ∧ I2 n' (v2_2 + 1) (v4_2 + 1))))))))))))
set_option maxHeartbeats 4000000 in
set_option maxRecDepth 10000 in
theorem m_X6_placesWith (l : Launch) {ad : Nat → Nat} {D : va_G} {cI cZ cG : ClassId} (hI : Ij ad) {σ : GS} {a0 : Int} {Post : Int → Prop} (h : vc_X6_placesWith σ a0 Post) : Met l yX6_placesWith (wX yX6_placesWith cX6_placesWith 5 (some .int)) rm_X6_placesWith (va_Pc [.ref (ad 10), .int (iI a0)] (Wd ad D cI cZ cG σ)) (QI ad D cI cZ cG (fun z u => u = σ ∧ Post z)) 0 0 (Aw ad) := by
  refine met_V (own := RX6) hI (by decide +kernel) rfl (Nat.le_of_ble_eq_true rfl) ?_
  intro p e s m args below meth c C
  unfold vc_X6_placesWith at h
  show V p l e rm_X6_placesWith s m args below meth c ad D cI cZ cG (Aw ad) 5 0 0 (MQ below (QI ad D cI cZ cG (fun z u => u = σ ∧ Post z)) args s 0 0 (Aw ad)) σ 0 [(0, .ref (ad 10)), (1, .int (iI a0))] []
  refine x_iconst (q := 1) (z := 0) C dX6_placesWith_0 rfl rfl ?_
  refine x_istore_n (q := 2) (i := 2) (lv' := [(0, .ref (ad 10)), (1, .int (iI a0)), (2, .int (iI 0))]) C dX6_placesWith_1 rfl (Nat.le_of_ble_eq_true rfl) [1, 2, 0] rfl rfl ?_
  refine x_aload_n (q := 3) (i := 0) C dX6_placesWith_2 rfl 0 rfl rfl ?_
  refine x_virI (q := 6) C (Nat.le_of_ble_eq_true rfl) ly_10 rfl ck_RX6_93 vk_X6_reach (m_X6_reach l hI h) ⟨⟨rfl, rfl⟩, ⟨Nat.le_of_ble_eq_true rfl, Nat.le_of_ble_eq_true rfl⟩, ⟨Nat.zero_le _, Nat.zero_le _⟩⟩ dX6_placesWith_3 rfl rfl (Nat.le_of_ble_eq_true rfl) rfl (fun z1 σ1 h => ?_)
  rw [h.1]
  have h := h.2
  refine x_istore_n (q := 7) (i := 3) (lv' := [(0, .ref (ad 10)), (1, .int (iI a0)), (2, .int (iI 0)), (3, .int (iI z1))]) C dX6_placesWith_6 rfl (Nat.le_of_ble_eq_true rfl) [1, 2, 3, 0] rfl rfl ?_
  refine x_iconst (q := 8) (z := 0) C dX6_placesWith_7 rfl rfl ?_
  refine x_istore (q := 10) (i := 4) (lv' := [(0, .ref (ad 10)), (1, .int (iI a0)), (2, .int (iI 0)), (3, .int (iI z1)), (4, .int (iI 0))]) C dX6_placesWith_8 (Nat.le_of_ble_eq_true rfl) [1, 2, 3, 4, 0] rfl rfl ?_
  obtain ⟨I2, ⟨n02, h02⟩, hs2⟩ := h
  have L2 : ∀ (n2 : Nat) (v2_2 : Int) (v4_2 : Int), I2 n2 v2_2 v4_2 → V p l e rm_X6_placesWith s m args below meth c ad D cI cZ cG (Aw ad) 5 0 0 (MQ below (QI ad D cI cZ cG (fun z u => u = σ ∧ Post z)) args s 0 0 (Aw ad)) σ 10 [(0, .ref (ad 10)), (1, .int (iI a0)), (2, .int (iI v2_2)), (3, .int (iI z1)), (4, .int (iI v4_2))] [] := by
    intro n2
    induction n2 using Nat.strongRecOn with
    | ind n2 ih2 =>
      intro v2_2 v4_2 h
      have h := hs2 n2 v2_2 v4_2 h
      refine x_iload (q := 12) C dX6_placesWith_10 4 rfl rfl ?_
      refine x_iload_n (q := 13) (i := 3) C dX6_placesWith_12 rfl 3 rfl rfl ?_
      obtain ⟨o3, h⟩ := h
      obtain ⟨o4, h⟩ := h
      refine x_icmp_ge (q := 16) (tgt := 35) C dX6_placesWith_13 rfl ⟨o3, o4⟩ rfl (fun c5 => ?_) (fun c5 => ?_)
      · have h := h.1 c5
        refine x_iload_n (q := 36) (i := 2) C dX6_placesWith_35 rfl 2 rfl rfl ?_
        exact x_iret C dX6_placesWith_36 ⟨rfl, h⟩
      · have h := h.2 c5
        refine x_aload_n (q := 17) (i := 0) C dX6_placesWith_16 rfl 0 rfl rfl ?_
        refine x_iload (q := 19) C dX6_placesWith_17 4 rfl rfl ?_
        refine x_virI (q := 22) C (Nat.le_of_ble_eq_true rfl) ly_10 rfl ck_RX6_99 vk_X6_letterAt (m_X6_letterAt l hI h) ⟨⟨rfl, rfl⟩, ⟨Nat.le_of_ble_eq_true rfl, Nat.le_of_ble_eq_true rfl⟩, ⟨Nat.zero_le _, Nat.zero_le _⟩⟩ dX6_placesWith_19 rfl rfl (Nat.le_of_ble_eq_true rfl) rfl (fun z6 σ6 h => ?_)
        rw [h.1]
        have h := h.2
        refine x_iload_n (q := 23) (i := 1) C dX6_placesWith_22 rfl 1 rfl rfl ?_
        obtain ⟨o7, h⟩ := h
        obtain ⟨o8, h⟩ := h
        refine x_icmp_ne (q := 26) (tgt := 29) C dX6_placesWith_23 rfl ⟨o7, o8⟩ rfl (fun c9 => ?_) (fun c9 => ?_)
        · have h := h.1 c9
          refine x_iinc (q := 32) (z' := v4_2 + 1) (lv' := [(0, .ref (ad 10)), (1, .int (iI a0)), (2, .int (iI v2_2)), (3, .int (iI z1)), (4, .int (iI (v4_2 + 1)))]) C dX6_placesWith_29 4 rfl rfl (Nat.le_of_ble_eq_true rfl) [1, 2, 3, 4, 0] rfl rfl ?_
          refine x_goto (tgt := 10) C dX6_placesWith_32 rfl ?_
          obtain ⟨n10, hl11, h⟩ := h
          refine x_sub [0, 1, 2, 3, 4] rfl ?_
          exact ih2 n10 hl11 _ _ h
        · have h := h.2 c9
          refine x_iinc (q := 29) (z' := v2_2 + 1) (lv' := [(0, .ref (ad 10)), (1, .int (iI a0)), (2, .int (iI (v2_2 + 1))), (3, .int (iI z1)), (4, .int (iI v4_2))]) C dX6_placesWith_26 2 rfl rfl (Nat.le_of_ble_eq_true rfl) [1, 2, 0, 3, 4] rfl rfl ?_
          refine x_iinc (q := 32) (z' := v4_2 + 1) (lv' := [(0, .ref (ad 10)), (1, .int (iI a0)), (2, .int (iI (v2_2 + 1))), (3, .int (iI z1)), (4, .int (iI (v4_2 + 1)))]) C dX6_placesWith_29 4 rfl rfl (Nat.le_of_ble_eq_true rfl) [1, 2, 3, 4, 0] rfl rfl ?_
          refine x_goto (tgt := 10) C dX6_placesWith_32 rfl ?_
          obtain ⟨n12, hl13, h⟩ := h
          refine x_sub [0, 1, 2, 3, 4] rfl ?_
          exact ih2 n12 hl13 _ _ h
  exact L2 n02 0 0 h02
abbrev rm_X6_wide : Room := { frames := 2, cells := 0, slots := 0, locals := 46 }
def vc_X6_wide (σ : GS)  (Post : Int → Prop) : Prop :=
  vc_X6_reach σ  (fun (z1 : Int) =>
    ∃ I2 : Nat → Int → Prop, (∃ n : Nat, I2 n (z1 - 1)) ∧ ∀ (n2 : Nat) (v1_2 : Int), I2 n2 v1_2 →
  ((rg v1_2) ∧
      ((v1_2 < 0 →
        (Post 0)) ∧
      (¬ v1_2 < 0 →
        (vc_X6_markAt σ v1_2 (fun (z5 : Int) =>
          (rg z5) ∧
        ((z5 < 0 →
          (∃ n' : Nat, n' < n2 ∧ I2 n' (v1_2 + (-1)))) ∧
        (¬ z5 < 0 →
          (Post (v1_2 + 1))))))))))
set_option maxHeartbeats 4000000 in
set_option maxRecDepth 10000 in
theorem m_X6_wide (l : Launch) {ad : Nat → Nat} {D : va_G} {cI cZ cG : ClassId} (hI : Ij ad) {σ : GS}  {Post : Int → Prop} (h : vc_X6_wide σ  Post) : Met l yX6_wide (wX yX6_wide cX6_wide 2 (some .int)) rm_X6_wide (va_Pc [.ref (ad 10)] (Wd ad D cI cZ cG σ)) (QI ad D cI cZ cG (fun z u => u = σ ∧ Post z)) 0 0 (Aw ad) := by
  refine met_V (own := RX6) hI (by decide +kernel) rfl (Nat.le_of_ble_eq_true rfl) ?_
  intro p e s m args below meth c C
  unfold vc_X6_wide at h
  show V p l e rm_X6_wide s m args below meth c ad D cI cZ cG (Aw ad) 2 0 0 (MQ below (QI ad D cI cZ cG (fun z u => u = σ ∧ Post z)) args s 0 0 (Aw ad)) σ 0 [(0, .ref (ad 10))] []
  refine x_aload_n (q := 1) (i := 0) C dX6_wide_0 rfl 0 rfl rfl ?_
  refine x_virI (q := 4) C (Nat.le_of_ble_eq_true rfl) ly_10 rfl ck_RX6_93 vk_X6_reach (m_X6_reach l hI h) ⟨⟨rfl, rfl⟩, ⟨Nat.le_of_ble_eq_true rfl, Nat.le_of_ble_eq_true rfl⟩, ⟨Nat.zero_le _, Nat.zero_le _⟩⟩ dX6_wide_1 rfl rfl (Nat.le_of_ble_eq_true rfl) rfl (fun z1 σ1 h => ?_)
  rw [h.1]
  have h := h.2
  refine x_iconst (q := 5) (z := 1) C dX6_wide_4 rfl rfl ?_
  refine x_isub (q := 6) C dX6_wide_5  rfl ?_
  refine x_istore_n (q := 7) (i := 1) (lv' := [(0, .ref (ad 10)), (1, .int (iI (z1 - 1)))]) C dX6_wide_6 rfl (Nat.le_of_ble_eq_true rfl) [1, 0] rfl rfl ?_
  obtain ⟨I2, ⟨n02, h02⟩, hs2⟩ := h
  have L2 : ∀ (n2 : Nat) (v1_2 : Int), I2 n2 v1_2 → V p l e rm_X6_wide s m args below meth c ad D cI cZ cG (Aw ad) 2 0 0 (MQ below (QI ad D cI cZ cG (fun z u => u = σ ∧ Post z)) args s 0 0 (Aw ad)) σ 7 [(0, .ref (ad 10)), (1, .int (iI v1_2))] [] := by
    intro n2
    induction n2 using Nat.strongRecOn with
    | ind n2 ih2 =>
      intro v1_2 h
      have h := hs2 n2 v1_2 h
      refine x_iload_n (q := 8) (i := 1) C dX6_wide_7 rfl 1 rfl rfl ?_
      obtain ⟨o3, h⟩ := h
      refine x_if_lt (q := 11) (tgt := 29) C dX6_wide_8 rfl o3 rfl (fun c4 => ?_) (fun c4 => ?_)
      · have h := h.1 c4
        refine x_iconst (q := 30) (z := 0) C dX6_wide_29 rfl rfl ?_
        exact x_iret C dX6_wide_30 ⟨rfl, h⟩
      · have h := h.2 c4
        refine x_aload_n (q := 12) (i := 0) C dX6_wide_11 rfl 0 rfl rfl ?_
        refine x_iload_n (q := 13) (i := 1) C dX6_wide_12 rfl 1 rfl rfl ?_
        refine x_virI (q := 16) C (Nat.le_of_ble_eq_true rfl) ly_10 rfl ck_RX6_87 vk_X6_markAt (m_X6_markAt l hI h) ⟨⟨rfl, rfl⟩, ⟨Nat.le_of_ble_eq_true rfl, Nat.le_of_ble_eq_true rfl⟩, ⟨Nat.zero_le _, Nat.zero_le _⟩⟩ dX6_wide_13 rfl rfl (Nat.le_of_ble_eq_true rfl) rfl (fun z5 σ5 h => ?_)
        rw [h.1]
        have h := h.2
        obtain ⟨o6, h⟩ := h
        refine x_if_lt (q := 19) (tgt := 23) C dX6_wide_16 rfl o6 rfl (fun c7 => ?_) (fun c7 => ?_)
        · have h := h.1 c7
          refine x_iinc (q := 26) (z' := v1_2 + (-1)) (lv' := [(0, .ref (ad 10)), (1, .int (iI (v1_2 + (-1))))]) C dX6_wide_23 1 rfl rfl (Nat.le_of_ble_eq_true rfl) [1, 0] rfl rfl ?_
          refine x_goto (tgt := 7) C dX6_wide_26 rfl ?_
          obtain ⟨n8, hl9, h⟩ := h
          refine x_sub [0, 1] rfl ?_
          exact ih2 n8 hl9 _ h
        · have h := h.2 c7
          refine x_iload_n (q := 20) (i := 1) C dX6_wide_19 rfl 1 rfl rfl ?_
          refine x_iconst (q := 21) (z := 1) C dX6_wide_20 rfl rfl ?_
          refine x_iadd (q := 22) C dX6_wide_21  rfl ?_
          exact x_iret C dX6_wide_22 ⟨rfl, h⟩
  exact L2 n02 (z1 - 1) h02
abbrev rm_X7_begin : Room := { frames := 4, cells := 0, slots := 0, locals := 93 }
def vc_X7_begin (σ : GS) (a0 : Int) (Post : GS → Prop) : Prop :=
  vc_X2_clear σ 8 (fun (σ1 : GS) =>
    vc_X6_layAll σ1 8 a0 (fun (σ2 : GS) =>
    Post σ2))
set_option maxHeartbeats 4000000 in
set_option maxRecDepth 10000 in
theorem m_X7_begin (l : Launch) {ad : Nat → Nat} {D : va_G} {cI cZ cG : ClassId} (hI : Ij ad) {σ : GS} {a0 : Int} {Post : GS → Prop} (h : vc_X7_begin σ a0 Post) : Met l yX7_begin (wX yX7_begin cX7_begin 2 none) rm_X7_begin (va_Pc [.ref (ad 20), .int (iI a0)] (Wd ad D cI cZ cG σ)) (QV ad D cI cZ cG Post) 0 0 (Aw ad) := by
  refine met_V (own := RX7) hI (by decide +kernel) rfl (Nat.le_of_ble_eq_true rfl) ?_
  intro p e s m args below meth c C
  unfold vc_X7_begin at h
  show V p l e rm_X7_begin s m args below meth c ad D cI cZ cG (Aw ad) 2 0 0 (MQ below (QV ad D cI cZ cG Post) args s 0 0 (Aw ad)) σ 0 [(0, .ref (ad 20)), (1, .int (iI a0))] []
  refine x_aload_n (q := 1) (i := 0) C dX7_begin_0 rfl 0 rfl rfl ?_
  refine x_getR (q := 4) (c0 := 8) C (Nat.le_of_ble_eq_true rfl) ly_20 fk_RX7_15 rfl dX7_begin_1 rfl ?_
  refine x_virV (q := 7) C (Nat.le_of_ble_eq_true rfl) ly_8 rfl ck_RX7_23 vk_X2_clear (m_X2_clear l hI h) ⟨⟨rfl, rfl⟩, ⟨Nat.le_of_ble_eq_true rfl, Nat.le_of_ble_eq_true rfl⟩, ⟨Nat.zero_le _, Nat.zero_le _⟩⟩ dX7_begin_4 rfl rfl (Nat.le_of_ble_eq_true rfl) rfl (fun σ1 h => ?_)
  refine x_aload_n (q := 8) (i := 0) C dX7_begin_7 rfl 0 rfl rfl ?_
  refine x_getR (q := 11) (c0 := 10) C (Nat.le_of_ble_eq_true rfl) ly_20 fk_RX7_19 rfl dX7_begin_8 rfl ?_
  refine x_aload_n (q := 12) (i := 0) C dX7_begin_11 rfl 0 rfl rfl ?_
  refine x_getR (q := 15) (c0 := 8) C (Nat.le_of_ble_eq_true rfl) ly_20 fk_RX7_15 rfl dX7_begin_12 rfl ?_
  refine x_iload_n (q := 16) (i := 1) C dX7_begin_15 rfl 1 rfl rfl ?_
  refine x_virV (q := 19) C (Nat.le_of_ble_eq_true rfl) ly_10 rfl ck_RX7_28 vk_X6_layAll (m_X6_layAll l hI h) ⟨⟨rfl, rfl⟩, ⟨Nat.le_of_ble_eq_true rfl, Nat.le_of_ble_eq_true rfl⟩, ⟨Nat.zero_le _, Nat.zero_le _⟩⟩ dX7_begin_16 rfl rfl (Nat.le_of_ble_eq_true rfl) rfl (fun σ2 h => ?_)
  exact x_vret C dX7_begin_19 h
abbrev rm_X7_step : Room := { frames := 3, cells := 0, slots := 0, locals := 71 }
def vc_X7_step (σ : GS)  (Post : Int → GS → Prop) : Prop :=
  vc_X1_size σ  (fun (z1 : Int) =>
    ∃ I2 : Nat → Int → GS → Prop, (∃ n : Nat, I2 n (z1 - 2) σ) ∧ ∀ (n2 : Nat) (v1_2 : Int) (σ2 : GS), I2 n2 v1_2 σ2 →
  ((rg v1_2) ∧
      ((v1_2 < 0 →
        (Post 0 σ2)) ∧
      (¬ v1_2 < 0 →
        (vc_X2_widen σ2 8 v1_2 (fun (z5 : Int) (σ5 : GS) =>
          (rg z5) ∧
        ((z5 = 0 →
          (vc_X2_close σ5 8 v1_2 (fun (σ8 : GS) =>
            ∃ n' : Nat, n' < n2 ∧ I2 n' (v1_2 + (-1)) σ8))) ∧
        (¬ z5 = 0 →
          (vc_X6_layFrom σ5 (v1_2 + 1) 8 63 (fun (σ11 : GS) =>
            Post 1 σ11))))))))))
set_option maxHeartbeats 4000000 in
set_option maxRecDepth 10000 in
theorem m_X7_step (l : Launch) {ad : Nat → Nat} {D : va_G} {cI cZ cG : ClassId} (hI : Ij ad) {σ : GS}  {Post : Int → GS → Prop} (h : vc_X7_step σ  Post) : Met l yX7_step (wX yX7_step cX7_step 2 (some .boolean)) rm_X7_step (va_Pc [.ref (ad 20)] (Wd ad D cI cZ cG σ)) (QI ad D cI cZ cG Post) 0 0 (Aw ad) := by
  refine met_V (own := RX7) hI (by decide +kernel) rfl (Nat.le_of_ble_eq_true rfl) ?_
  intro p e s m args below meth c C
  unfold vc_X7_step at h
  show V p l e rm_X7_step s m args below meth c ad D cI cZ cG (Aw ad) 2 0 0 (MQ below (QI ad D cI cZ cG Post) args s 0 0 (Aw ad)) σ 0 [(0, .ref (ad 20))] []
  refine x_aload_n (q := 1) (i := 0) C dX7_step_0 rfl 0 rfl rfl ?_
  refine x_getR (q := 4) (c0 := 3) C (Nat.le_of_ble_eq_true rfl) ly_20 fk_RX7_9 rfl dX7_step_1 rfl ?_
  refine x_virI (q := 7) C (Nat.le_of_ble_eq_true rfl) ly_3 rfl ck_RX7_34 vk_X1_size (m_X1_size l hI h) ⟨⟨rfl, rfl⟩, ⟨Nat.le_of_ble_eq_true rfl, Nat.le_of_ble_eq_true rfl⟩, ⟨Nat.zero_le _, Nat.zero_le _⟩⟩ dX7_step_4 rfl rfl (Nat.le_of_ble_eq_true rfl) rfl (fun z1 σ1 h => ?_)
  rw [h.1]
  have h := h.2
  refine x_iconst (q := 8) (z := 2) C dX7_step_7 rfl rfl ?_
  refine x_isub (q := 9) C dX7_step_8  rfl ?_
  refine x_istore_n (q := 10) (i := 1) (lv' := [(0, .ref (ad 20)), (1, .int (iI (z1 - 2)))]) C dX7_step_9 rfl (Nat.le_of_ble_eq_true rfl) [1, 0] rfl rfl ?_
  obtain ⟨I2, ⟨n02, h02⟩, hs2⟩ := h
  have L2 : ∀ (n2 : Nat) (v1_2 : Int) (σ2 : GS), I2 n2 v1_2 σ2 → V p l e rm_X7_step s m args below meth c ad D cI cZ cG (Aw ad) 2 0 0 (MQ below (QI ad D cI cZ cG Post) args s 0 0 (Aw ad)) σ2 10 [(0, .ref (ad 20)), (1, .int (iI v1_2))] [] := by
    intro n2
    induction n2 using Nat.strongRecOn with
    | ind n2 ih2 =>
      intro v1_2 σ2 h
      have h := hs2 n2 v1_2 σ2 h
      refine x_iload_n (q := 11) (i := 1) C dX7_step_10 rfl 1 rfl rfl ?_
      obtain ⟨o3, h⟩ := h
      refine x_if_lt (q := 14) (tgt := 57) C dX7_step_11 rfl o3 rfl (fun c4 => ?_) (fun c4 => ?_)
      · have h := h.1 c4
        refine x_iconst (q := 58) (z := 0) C dX7_step_57 rfl rfl ?_
        exact x_zret C dX7_step_58 (by decide) h
      · have h := h.2 c4
        refine x_aload_n (q := 15) (i := 0) C dX7_step_14 rfl 0 rfl rfl ?_
        refine x_getR (q := 18) (c0 := 8) C (Nat.le_of_ble_eq_true rfl) ly_20 fk_RX7_15 rfl dX7_step_15 rfl ?_
        refine x_iload_n (q := 19) (i := 1) C dX7_step_18 rfl 1 rfl rfl ?_
        refine x_virI (q := 22) C (Nat.le_of_ble_eq_true rfl) ly_8 rfl ck_RX7_40 vk_X2_widen (m_X2_widen l hI h) ⟨⟨rfl, rfl⟩, ⟨Nat.le_of_ble_eq_true rfl, Nat.le_of_ble_eq_true rfl⟩, ⟨Nat.zero_le _, Nat.zero_le _⟩⟩ dX7_step_19 rfl rfl (Nat.le_of_ble_eq_true rfl) rfl (fun z5 σ5 h => ?_)
        obtain ⟨o6, h⟩ := h
        refine x_if_eq (q := 25) (tgt := 43) C dX7_step_22 rfl o6 rfl (fun c7 => ?_) (fun c7 => ?_)
        · have h := h.1 c7
          refine x_aload_n (q := 44) (i := 0) C dX7_step_43 rfl 0 rfl rfl ?_
          refine x_getR (q := 47) (c0 := 8) C (Nat.le_of_ble_eq_true rfl) ly_20 fk_RX7_15 rfl dX7_step_44 rfl ?_
          refine x_iload_n (q := 48) (i := 1) C dX7_step_47 rfl 1 rfl rfl ?_
          refine x_virV (q := 51) C (Nat.le_of_ble_eq_true rfl) ly_8 rfl ck_RX7_48 vk_X2_close (m_X2_close l hI h) ⟨⟨rfl, rfl⟩, ⟨Nat.le_of_ble_eq_true rfl, Nat.le_of_ble_eq_true rfl⟩, ⟨Nat.zero_le _, Nat.zero_le _⟩⟩ dX7_step_48 rfl rfl (Nat.le_of_ble_eq_true rfl) rfl (fun σ8 h => ?_)
          refine x_iinc (q := 54) (z' := v1_2 + (-1)) (lv' := [(0, .ref (ad 20)), (1, .int (iI (v1_2 + (-1))))]) C dX7_step_51 1 rfl rfl (Nat.le_of_ble_eq_true rfl) [1, 0] rfl rfl ?_
          refine x_goto (tgt := 10) C dX7_step_54 rfl ?_
          obtain ⟨n9, hl10, h⟩ := h
          refine x_sub [0, 1] rfl ?_
          exact ih2 n9 hl10 _ _ h
        · have h := h.2 c7
          refine x_aload_n (q := 26) (i := 0) C dX7_step_25 rfl 0 rfl rfl ?_
          refine x_getR (q := 29) (c0 := 10) C (Nat.le_of_ble_eq_true rfl) ly_20 fk_RX7_19 rfl dX7_step_26 rfl ?_
          refine x_iload_n (q := 30) (i := 1) C dX7_step_29 rfl 1 rfl rfl ?_
          refine x_iconst (q := 31) (z := 1) C dX7_step_30 rfl rfl ?_
          refine x_iadd (q := 32) C dX7_step_31  rfl ?_
          refine x_aload_n (q := 33) (i := 0) C dX7_step_32 rfl 0 rfl rfl ?_
          refine x_getR (q := 36) (c0 := 8) C (Nat.le_of_ble_eq_true rfl) ly_20 fk_RX7_15 rfl dX7_step_33 rfl ?_
          refine x_bipush (q := 38) (z := 63) C dX7_step_36 rfl rfl ?_
          refine x_virV (q := 41) C (Nat.le_of_ble_eq_true rfl) ly_10 rfl ck_RX7_44 vk_X6_layFrom (m_X6_layFrom l hI h) ⟨⟨rfl, rfl⟩, ⟨Nat.le_of_ble_eq_true rfl, Nat.le_of_ble_eq_true rfl⟩, ⟨Nat.zero_le _, Nat.zero_le _⟩⟩ dX7_step_38 rfl rfl (Nat.le_of_ble_eq_true rfl) rfl (fun σ11 h => ?_)
          refine x_iconst (q := 42) (z := 1) C dX7_step_41 rfl rfl ?_
          exact x_zret C dX7_step_42 (by decide) h
  exact L2 n02 (z1 - 2) σ h02
abbrev rm_X8_length : Room := { frames := 0, cells := 0, slots := 0, locals := 0 }
def vc_X8_length (σ : GS)  (Post : Int → Prop) : Prop :=
  Post (σ 21 1)
set_option maxHeartbeats 4000000 in
set_option maxRecDepth 10000 in
theorem m_X8_length (l : Launch) {ad : Nat → Nat} {D : va_G} {cI cZ cG : ClassId} (hI : Ij ad) {σ : GS}  {Post : Int → Prop} (h : vc_X8_length σ  Post) : Met l yX8_length (wX yX8_length cX8_length 1 (some .int)) rm_X8_length (va_Pc [.ref (ad 21)] (Wd ad D cI cZ cG σ)) (QI ad D cI cZ cG (fun z u => u = σ ∧ Post z)) 0 0 (Aw ad) := by
  refine met_V (own := RX8) hI (by decide +kernel) rfl (Nat.le_of_ble_eq_true rfl) ?_
  intro p e s m args below meth c C
  unfold vc_X8_length at h
  show V p l e rm_X8_length s m args below meth c ad D cI cZ cG (Aw ad) 1 0 0 (MQ below (QI ad D cI cZ cG (fun z u => u = σ ∧ Post z)) args s 0 0 (Aw ad)) σ 0 [(0, .ref (ad 21))] []
  refine x_aload_n (q := 1) (i := 0) C dX8_length_0 rfl 0 rfl rfl ?_
  refine x_getI (q := 4) C (Nat.le_of_ble_eq_true rfl) ly_21 fk_RX8_15 rfl dX8_length_1 rfl ?_
  exact x_iret C dX8_length_4 ⟨rfl, h⟩
abbrev rm_X8_take : Room := { frames := 1, cells := 0, slots := 0, locals := 26 }
def vc_X8_take (σ : GS) (a0 : Int) (a1 : Int) (Post : GS → Prop) : Prop :=
  (rg a0) ∧
  ((rg (min a0 5)) ∧
  (∃ I3 : Nat → Int → Int → GS → Prop, (∃ n : Nat, I3 n a1 (((up2 σ 21 1 (max 0 (min a0 5))) 21 1) - 1) (up2 σ 21 1 (max 0 (min a0 5)))) ∧ ∀ (n3 : Nat) (v4_3 : Int) (v6_3 : Int) (σ3 : GS), I3 n3 v4_3 v6_3 σ3 →
  ((rg v6_3) ∧
      ((v6_3 < 0 →
        (Post σ3)) ∧
      (¬ v6_3 < 0 →
        ((0 ≤ v4_3 ∧ v4_3 ≤ 9223372036854775807) ∧
        ((0 ≤ v6_3 ∧ v6_3 < 5) ∧
        (∃ n' : Nat, n' < n3 ∧ I3 n' (v4_3 / 100) (v6_3 + (-1)) (up2 σ3 22 v6_3.toNat (97 + (v4_3 % 100)))))))))))
set_option maxHeartbeats 4000000 in
set_option maxRecDepth 10000 in
theorem m_X8_take (l : Launch) {ad : Nat → Nat} {D : va_G} {cI cZ cG : ClassId} (hI : Ij ad) {σ : GS} {a0 : Int} {a1 : Int} {Post : GS → Prop} (h : vc_X8_take σ a0 a1 Post) : Met l yX8_take (wX yX8_take cX8_take 7 none) rm_X8_take (va_Pc [.ref (ad 21), .int (iI a0), .long (lI a1)] (Wd ad D cI cZ cG σ)) (QV ad D cI cZ cG Post) 0 0 (Aw ad) := by
  refine met_V (own := RX8) hI (by decide +kernel) rfl (Nat.le_of_ble_eq_true rfl) ?_
  intro p e s m args below meth c C
  unfold vc_X8_take at h
  show V p l e rm_X8_take s m args below meth c ad D cI cZ cG (Aw ad) 7 0 0 (MQ below (QV ad D cI cZ cG Post) args s 0 0 (Aw ad)) σ 0 [(0, .ref (ad 21)), (1, .int (iI a0)), (2, .long (lI a1))] []
  refine x_lload_n (q := 1) (i := 2) C dX8_take_0 rfl 2 rfl rfl ?_
  refine x_lstore (q := 3) (i := 4) (lv' := [(0, .ref (ad 21)), (1, .int (iI a0)), (2, .long (lI a1)), (4, .long (lI a1))]) C dX8_take_1 (Nat.le_of_ble_eq_true rfl) [1, 2, 3, 0] rfl rfl ?_
  refine x_aload_n (q := 4) (i := 0) C dX8_take_3 rfl 0 rfl rfl ?_
  refine x_iconst (q := 5) (z := 0) C dX8_take_4 rfl rfl ?_
  refine x_iload_n (q := 6) (i := 1) C dX8_take_5 rfl 1 rfl rfl ?_
  refine x_iconst (q := 7) (z := 5) C dX8_take_6 rfl rfl ?_
  obtain ⟨o1, h⟩ := h
  refine x_min (q := 10) C t2_64 ⟨t2_17, t1_13, t2_18⟩ ⟨⟨Nat.le_of_ble_eq_true rfl, Nat.le_of_ble_eq_true rfl⟩, ⟨Nat.zero_le _, Nat.zero_le _⟩⟩ dX8_take_7 ⟨o1, by decide⟩ rfl ?_
  obtain ⟨o2, h⟩ := h
  refine x_max (q := 13) C t2_65 ⟨t2_66, t1_13, t2_67⟩ ⟨⟨Nat.le_of_ble_eq_true rfl, Nat.le_of_ble_eq_true rfl⟩, ⟨Nat.zero_le _, Nat.zero_le _⟩⟩ dX8_take_10 ⟨by decide, o2⟩ rfl ?_
  refine x_putI (q := 16) C (Nat.le_of_ble_eq_true rfl) ly_21 fk_RX8_15 rfl tyX8 tyX8_ok nmX8 rfl (tyX8_ok 1 (Nat.le_of_ble_eq_true rfl)) dX8_take_13 rfl ?_
  refine x_aload_n (q := 17) (i := 0) C dX8_take_16 rfl 0 rfl rfl ?_
  refine x_getI (q := 20) C (Nat.le_of_ble_eq_true rfl) ly_21 fk_RX8_15 rfl dX8_take_17 rfl ?_
  refine x_iconst (q := 21) (z := 1) C dX8_take_20 rfl rfl ?_
  refine x_isub (q := 22) C dX8_take_21  rfl ?_
  refine x_istore (q := 24) (i := 6) (lv' := [(0, .ref (ad 21)), (1, .int (iI a0)), (2, .long (lI a1)), (4, .long (lI a1)), (6, .int (iI (((up2 σ 21 1 (max 0 (min a0 5))) 21 1) - 1)))]) C dX8_take_22 (Nat.le_of_ble_eq_true rfl) [1, 2, 3, 4, 0] rfl rfl ?_
  obtain ⟨I3, ⟨n03, h03⟩, hs3⟩ := h
  have L3 : ∀ (n3 : Nat) (v4_3 : Int) (v6_3 : Int) (σ3 : GS), I3 n3 v4_3 v6_3 σ3 → V p l e rm_X8_take s m args below meth c ad D cI cZ cG (Aw ad) 7 0 0 (MQ below (QV ad D cI cZ cG Post) args s 0 0 (Aw ad)) σ3 24 [(0, .ref (ad 21)), (1, .int (iI a0)), (2, .long (lI a1)), (4, .long (lI v4_3)), (6, .int (iI v6_3))] [] := by
    intro n3
    induction n3 using Nat.strongRecOn with
    | ind n3 ih3 =>
      intro v4_3 v6_3 σ3 h
      have h := hs3 n3 v4_3 v6_3 σ3 h
      refine x_iload (q := 26) C dX8_take_24 4 rfl rfl ?_
      obtain ⟨o4, h⟩ := h
      refine x_if_lt (q := 29) (tgt := 61) C dX8_take_26 rfl o4 rfl (fun c5 => ?_) (fun c5 => ?_)
      · have h := h.1 c5
        exact x_vret C dX8_take_61 h
      · have h := h.2 c5
        refine x_aload_n (q := 30) (i := 0) C dX8_take_29 rfl 0 rfl rfl ?_
        refine x_getR (q := 33) (c0 := 22) C (Nat.le_of_ble_eq_true rfl) ly_21 fk_RX8_9 rfl dX8_take_30 rfl ?_
        refine x_iload (q := 35) C dX8_take_33 4 rfl rfl ?_
        refine x_ldc2 (q := 38) (z := 97) C dX8_take_35 t2_68 rfl rfl ?_
        refine x_lload (q := 40) C dX8_take_38 3 rfl rfl ?_
        refine x_ldc2 (q := 43) (z := 100) C dX8_take_40 t2_69 rfl rfl ?_
        obtain ⟨o6, h⟩ := h
        refine x_lrem (q := 44) C dX8_take_43 ⟨o6, by decide⟩ rfl ?_
        refine x_ladd (q := 45) C dX8_take_44  rfl ?_
        refine x_l2i (q := 46) C dX8_take_45  rfl ?_
        obtain ⟨o7, h⟩ := h
        refine x_iast (q := 47) C (Nat.le_of_ble_eq_true rfl) ly_22 dX8_take_46 (ix o7 rfl) (Nat.le_of_ble_eq_true rfl)  rfl ?_
        refine x_lload (q := 49) C dX8_take_47 3 rfl rfl ?_
        refine x_ldc2 (q := 52) (z := 100) C dX8_take_49 t2_69 rfl rfl ?_
        refine x_ldiv (q := 53) C dX8_take_52 ⟨o6, by decide⟩ rfl ?_
        refine x_lstore (q := 55) (i := 4) (lv' := [(0, .ref (ad 21)), (1, .int (iI a0)), (2, .long (lI a1)), (4, .long (lI (v4_3 / 100))), (6, .int (iI v6_3))]) C dX8_take_53 (Nat.le_of_ble_eq_true rfl) [1, 2, 3, 0, 4] rfl rfl ?_
        refine x_iinc (q := 58) (z' := v6_3 + (-1)) (lv' := [(0, .ref (ad 21)), (1, .int (iI a0)), (2, .long (lI a1)), (4, .long (lI (v4_3 / 100))), (6, .int (iI (v6_3 + (-1))))]) C dX8_take_55 4 rfl rfl (Nat.le_of_ble_eq_true rfl) [1, 2, 3, 4, 0] rfl rfl ?_
        refine x_goto (tgt := 24) C dX8_take_58 rfl ?_
        obtain ⟨n8, hl9, h⟩ := h
        refine x_sub [0, 1, 2, 3, 4] rfl ?_
        exact ih3 n8 hl9 _ _ _ h
  exact L3 n03 a1 (((up2 σ 21 1 (max 0 (min a0 5))) 21 1) - 1) (up2 σ 21 1 (max 0 (min a0 5))) h03
abbrev rm_X8_isReadAt : Room := { frames := 2, cells := 0, slots := 0, locals := 42 }
def vc_X8_isReadAt (σ : GS) (a1 : Int) (a2 : Int) (Post : Int → Prop) : Prop :=
  ∃ I1 : Nat → Int → Prop, (∃ n : Nat, I1 n 0) ∧ ∀ (n1 : Nat) (v4_1 : Int), I1 n1 v4_1 →
  ((rg v4_1) ∧
      ((rg (σ 21 1)) ∧
      (((σ 21 1) ≤ v4_1 →
        (Post 1)) ∧
      (¬ (σ 21 1) ≤ v4_1 →
        (vc_X6_letterAt σ (a1 + (v4_1 * a2)) (fun (z5 : Int) =>
          (0 ≤ v4_1 ∧ v4_1 < 5) ∧
        ((rg z5) ∧
        ((rg (σ 22 v4_1.toNat)) ∧
        ((z5 = (σ 22 v4_1.toNat) →
          (∃ n' : Nat, n' < n1 ∧ I1 n' (v4_1 + 1))) ∧
        (¬ z5 = (σ 22 v4_1.toNat) →
          (Post 0)))))))))))
set_option maxHeartbeats 4000000 in
set_option maxRecDepth 10000 in
theorem m_X8_isReadAt (l : Launch) {ad : Nat → Nat} {D : va_G} {cI cZ cG : ClassId} (hI : Ij ad) {σ : GS} {a1 : Int} {a2 : Int} {Post : Int → Prop} (h : vc_X8_isReadAt σ a1 a2 Post) : Met l yX8_isReadAt (wX yX8_isReadAt cX8_isReadAt 5 (some .boolean)) rm_X8_isReadAt (va_Pc [.ref (ad 21), .ref (ad 10), .int (iI a1), .int (iI a2)] (Wd ad D cI cZ cG σ)) (QI ad D cI cZ cG (fun z u => u = σ ∧ Post z)) 0 0 (Aw ad) := by
  refine met_V (own := RX8) hI (by decide +kernel) rfl (Nat.le_of_ble_eq_true rfl) ?_
  intro p e s m args below meth c C
  unfold vc_X8_isReadAt at h
  show V p l e rm_X8_isReadAt s m args below meth c ad D cI cZ cG (Aw ad) 5 0 0 (MQ below (QI ad D cI cZ cG (fun z u => u = σ ∧ Post z)) args s 0 0 (Aw ad)) σ 0 [(0, .ref (ad 21)), (1, .ref (ad 10)), (2, .int (iI a1)), (3, .int (iI a2))] []
  refine x_iconst (q := 1) (z := 0) C dX8_isReadAt_0 rfl rfl ?_
  refine x_istore (q := 3) (i := 4) (lv' := [(0, .ref (ad 21)), (1, .ref (ad 10)), (2, .int (iI a1)), (3, .int (iI a2)), (4, .int (iI 0))]) C dX8_isReadAt_1 (Nat.le_of_ble_eq_true rfl) [1, 2, 3, 4, 0] rfl rfl ?_
  obtain ⟨I1, ⟨n01, h01⟩, hs1⟩ := h
  have L1 : ∀ (n1 : Nat) (v4_1 : Int), I1 n1 v4_1 → V p l e rm_X8_isReadAt s m args below meth c ad D cI cZ cG (Aw ad) 5 0 0 (MQ below (QI ad D cI cZ cG (fun z u => u = σ ∧ Post z)) args s 0 0 (Aw ad)) σ 3 [(0, .ref (ad 21)), (1, .ref (ad 10)), (2, .int (iI a1)), (3, .int (iI a2)), (4, .int (iI v4_1))] [] := by
    intro n1
    induction n1 using Nat.strongRecOn with
    | ind n1 ih1 =>
      intro v4_1 h
      have h := hs1 n1 v4_1 h
      refine x_iload (q := 5) C dX8_isReadAt_3 4 rfl rfl ?_
      refine x_aload_n (q := 6) (i := 0) C dX8_isReadAt_5 rfl 0 rfl rfl ?_
      refine x_getI (q := 9) C (Nat.le_of_ble_eq_true rfl) ly_21 fk_RX8_15 rfl dX8_isReadAt_6 rfl ?_
      obtain ⟨o2, h⟩ := h
      obtain ⟨o3, h⟩ := h
      refine x_icmp_ge (q := 12) (tgt := 40) C dX8_isReadAt_9 rfl ⟨o2, o3⟩ rfl (fun c4 => ?_) (fun c4 => ?_)
      · have h := h.1 c4
        refine x_iconst (q := 41) (z := 1) C dX8_isReadAt_40 rfl rfl ?_
        exact x_zret C dX8_isReadAt_41 (by decide) ⟨rfl, h⟩
      · have h := h.2 c4
        refine x_aload_n (q := 13) (i := 1) C dX8_isReadAt_12 rfl 1 rfl rfl ?_
        refine x_iload_n (q := 14) (i := 2) C dX8_isReadAt_13 rfl 2 rfl rfl ?_
        refine x_iload (q := 16) C dX8_isReadAt_14 4 rfl rfl ?_
        refine x_iload_n (q := 17) (i := 3) C dX8_isReadAt_16 rfl 3 rfl rfl ?_
        refine x_imul (q := 18) C dX8_isReadAt_17  rfl ?_
        refine x_iadd (q := 19) C dX8_isReadAt_18  rfl ?_
        refine x_virI (q := 22) C (Nat.le_of_ble_eq_true rfl) ly_10 rfl ck_RX8_49 vk_X6_letterAt (m_X6_letterAt l hI h) ⟨⟨rfl, rfl⟩, ⟨Nat.le_of_ble_eq_true rfl, Nat.le_of_ble_eq_true rfl⟩, ⟨Nat.zero_le _, Nat.zero_le _⟩⟩ dX8_isReadAt_19 rfl rfl (Nat.le_of_ble_eq_true rfl) rfl (fun z5 σ5 h => ?_)
        rw [h.1]
        have h := h.2
        refine x_aload_n (q := 23) (i := 0) C dX8_isReadAt_22 rfl 0 rfl rfl ?_
        refine x_getR (q := 26) (c0 := 22) C (Nat.le_of_ble_eq_true rfl) ly_21 fk_RX8_9 rfl dX8_isReadAt_23 rfl ?_
        refine x_iload (q := 28) C dX8_isReadAt_26 4 rfl rfl ?_
        obtain ⟨o6, h⟩ := h
        refine x_iald (q := 29) C (Nat.le_of_ble_eq_true rfl) ly_22 dX8_isReadAt_28 (ix o6 rfl) (Nat.le_of_ble_eq_true rfl) rfl ?_
        obtain ⟨o7, h⟩ := h
        obtain ⟨o8, h⟩ := h
        refine x_icmp_eq (q := 32) (tgt := 34) C dX8_isReadAt_29 rfl ⟨o7, o8⟩ rfl (fun c9 => ?_) (fun c9 => ?_)
        · have h := h.1 c9
          refine x_iinc (q := 37) (z' := v4_1 + 1) (lv' := [(0, .ref (ad 21)), (1, .ref (ad 10)), (2, .int (iI a1)), (3, .int (iI a2)), (4, .int (iI (v4_1 + 1)))]) C dX8_isReadAt_34 4 rfl rfl (Nat.le_of_ble_eq_true rfl) [1, 2, 3, 4, 0] rfl rfl ?_
          refine x_goto (tgt := 3) C dX8_isReadAt_37 rfl ?_
          obtain ⟨n10, hl11, h⟩ := h
          refine x_sub [0, 1, 2, 3, 4] rfl ?_
          exact ih1 n10 hl11 _ h
        · have h := h.2 c9
          refine x_iconst (q := 33) (z := 0) C dX8_isReadAt_32 rfl rfl ?_
          exact x_zret C dX8_isReadAt_33 (by decide) ⟨rfl, h⟩
  exact L1 n01 0 h01
abbrev rm_X8_firstRead : Room := { frames := 3, cells := 0, slots := 0, locals := 66 }
def vc_X8_firstRead (σ : GS)  (Post : Int → Prop) : Prop :=
  (rg (σ 21 1)) ∧
  ((¬ (σ 21 1) = 0 →
    (vc_X6_reach σ  (fun (z3 : Int) =>
      vc_X6_side σ  (fun (z4 : Int) =>
      (rg z4) ∧
    ((¬ z4 = 0 →
      (((-1 : Int) ≤ 0 →
        (∃ I8 : Nat → Int → Int → Prop, (∃ n : Nat, I8 n (z3 - 1) 0) ∧ ∀ (n8 : Nat) (v4_8 : Int) (v5_8 : Int), I8 n8 v4_8 v5_8 →
        ((rg v5_8) ∧
            ((rg z3) ∧
            ((z3 ≤ v5_8 →
              (Post (-9))) ∧
            (¬ z3 ≤ v5_8 →
              (vc_X8_isReadAt σ v4_8 (-1) (fun (z12 : Int) =>
                (rg z12) ∧
              ((z12 = 0 →
                (∃ n' : Nat, n' < n8 ∧ I8 n' (v4_8 + (-1)) (v5_8 + 1))) ∧
              (¬ z12 = 0 →
                (Post v4_8))))))))))) ∧
      (¬ (-1 : Int) ≤ 0 →
        (∃ I17 : Nat → Int → Int → Prop, (∃ n : Nat, I17 n 0 0) ∧ ∀ (n17 : Nat) (v4_17 : Int) (v5_17 : Int), I17 n17 v4_17 v5_17 →
        ((rg v5_17) ∧
            ((rg z3) ∧
            ((z3 ≤ v5_17 →
              (Post (-9))) ∧
            (¬ z3 ≤ v5_17 →
              (vc_X8_isReadAt σ v4_17 (-1) (fun (z21 : Int) =>
                (rg z21) ∧
              ((z21 = 0 →
                (∃ n' : Nat, n' < n17 ∧ I17 n' (v4_17 + (-1)) (v5_17 + 1))) ∧
              (¬ z21 = 0 →
                (Post v4_17))))))))))))) ∧
    (z4 = 0 →
      (((1 : Int) ≤ 0 →
        (∃ I27 : Nat → Int → Int → Prop, (∃ n : Nat, I27 n (z3 - 1) 0) ∧ ∀ (n27 : Nat) (v4_27 : Int) (v5_27 : Int), I27 n27 v4_27 v5_27 →
        ((rg v5_27) ∧
            ((rg z3) ∧
            ((z3 ≤ v5_27 →
              (Post (-9))) ∧
            (¬ z3 ≤ v5_27 →
              (vc_X8_isReadAt σ v4_27 1 (fun (z31 : Int) =>
                (rg z31) ∧
              ((z31 = 0 →
                (∃ n' : Nat, n' < n27 ∧ I27 n' (v4_27 + 1) (v5_27 + 1))) ∧
              (¬ z31 = 0 →
                (Post v4_27))))))))))) ∧
      (¬ (1 : Int) ≤ 0 →
        (∃ I36 : Nat → Int → Int → Prop, (∃ n : Nat, I36 n 0 0) ∧ ∀ (n36 : Nat) (v4_36 : Int) (v5_36 : Int), I36 n36 v4_36 v5_36 →
        ((rg v5_36) ∧
            ((rg z3) ∧
            ((z3 ≤ v5_36 →
              (Post (-9))) ∧
            (¬ z3 ≤ v5_36 →
              (vc_X8_isReadAt σ v4_36 1 (fun (z40 : Int) =>
                (rg z40) ∧
              ((z40 = 0 →
                (∃ n' : Nat, n' < n36 ∧ I36 n' (v4_36 + 1) (v5_36 + 1))) ∧
              (¬ z40 = 0 →
                (Post v4_36)))))))))))))))))) ∧
  ((σ 21 1) = 0 →
    (Post 0)))
set_option maxHeartbeats 4000000 in
set_option maxRecDepth 10000 in
theorem m_X8_firstRead (l : Launch) {ad : Nat → Nat} {D : va_G} {cI cZ cG : ClassId} (hI : Ij ad) {σ : GS}  {Post : Int → Prop} (h : vc_X8_firstRead σ  Post) : Met l yX8_firstRead (wX yX8_firstRead cX8_firstRead 6 (some .int)) rm_X8_firstRead (va_Pc [.ref (ad 21), .ref (ad 10)] (Wd ad D cI cZ cG σ)) (QI ad D cI cZ cG (fun z u => u = σ ∧ Post z)) 0 0 (Aw ad) := by
  refine met_V (own := RX8) hI (by decide +kernel) rfl (Nat.le_of_ble_eq_true rfl) ?_
  intro p e s m args below meth c C
  unfold vc_X8_firstRead at h
  show V p l e rm_X8_firstRead s m args below meth c ad D cI cZ cG (Aw ad) 6 0 0 (MQ below (QI ad D cI cZ cG (fun z u => u = σ ∧ Post z)) args s 0 0 (Aw ad)) σ 0 [(0, .ref (ad 21)), (1, .ref (ad 10))] []
  refine x_aload_n (q := 1) (i := 0) C dX8_firstRead_0 rfl 0 rfl rfl ?_
  refine x_getI (q := 4) C (Nat.le_of_ble_eq_true rfl) ly_21 fk_RX8_15 rfl dX8_firstRead_1 rfl ?_
  obtain ⟨o1, h⟩ := h
  refine x_if_ne (q := 7) (tgt := 9) C dX8_firstRead_4 rfl o1 rfl (fun c2 => ?_) (fun c2 => ?_)
  · have h := h.1 c2
    refine x_aload_n (q := 10) (i := 1) C dX8_firstRead_9 rfl 1 rfl rfl ?_
    refine x_virI (q := 13) C (Nat.le_of_ble_eq_true rfl) ly_10 rfl ck_RX8_36 vk_X6_reach (m_X6_reach l hI h) ⟨⟨rfl, rfl⟩, ⟨Nat.le_of_ble_eq_true rfl, Nat.le_of_ble_eq_true rfl⟩, ⟨Nat.zero_le _, Nat.zero_le _⟩⟩ dX8_firstRead_10 rfl rfl (Nat.le_of_ble_eq_true rfl) rfl (fun z3 σ3 h => ?_)
    rw [h.1]
    have h := h.2
    refine x_istore_n (q := 14) (i := 2) (lv' := [(0, .ref (ad 21)), (1, .ref (ad 10)), (2, .int (iI z3))]) C dX8_firstRead_13 rfl (Nat.le_of_ble_eq_true rfl) [1, 2, 0] rfl rfl ?_
    refine x_aload_n (q := 15) (i := 1) C dX8_firstRead_14 rfl 1 rfl rfl ?_
    refine x_virI (q := 18) C (Nat.le_of_ble_eq_true rfl) ly_10 rfl ck_RX8_42 vk_X6_side (m_X6_side l hI h) ⟨⟨rfl, rfl⟩, ⟨Nat.le_of_ble_eq_true rfl, Nat.le_of_ble_eq_true rfl⟩, ⟨Nat.zero_le _, Nat.zero_le _⟩⟩ dX8_firstRead_15 rfl rfl (Nat.le_of_ble_eq_true rfl) rfl (fun z4 σ4 h => ?_)
    rw [h.1]
    have h := h.2
    obtain ⟨o5, h⟩ := h
    refine x_if_ne (q := 21) (tgt := 25) C dX8_firstRead_18 rfl o5 rfl (fun c6 => ?_) (fun c6 => ?_)
    · have h := h.1 c6
      refine x_iconst (q := 26) (z := (-1)) C dX8_firstRead_25 rfl rfl ?_
      refine x_istore_n (q := 27) (i := 3) (lv' := [(0, .ref (ad 21)), (1, .ref (ad 10)), (2, .int (iI z3)), (3, .int (iI (-1)))]) C dX8_firstRead_26 rfl (Nat.le_of_ble_eq_true rfl) [1, 2, 3, 0] rfl rfl ?_
      refine x_iload_n (q := 28) (i := 3) C dX8_firstRead_27 rfl 3 rfl rfl ?_
      refine x_if_le (q := 31) (tgt := 35) C dX8_firstRead_28 rfl (by decide) rfl (fun c7 => ?_) (fun c7 => ?_)
      · have h := h.1 c7
        refine x_iload_n (q := 36) (i := 2) C dX8_firstRead_35 rfl 2 rfl rfl ?_
        refine x_iconst (q := 37) (z := 1) C dX8_firstRead_36 rfl rfl ?_
        refine x_isub (q := 38) C dX8_firstRead_37  rfl ?_
        refine x_istore (q := 40) (i := 4) (lv' := [(0, .ref (ad 21)), (1, .ref (ad 10)), (2, .int (iI z3)), (3, .int (iI (-1))), (4, .int (iI (z3 - 1)))]) C dX8_firstRead_38 (Nat.le_of_ble_eq_true rfl) [1, 2, 3, 4, 0] rfl rfl ?_
        refine x_iconst (q := 41) (z := 0) C dX8_firstRead_40 rfl rfl ?_
        refine x_istore (q := 43) (i := 5) (lv' := [(0, .ref (ad 21)), (1, .ref (ad 10)), (2, .int (iI z3)), (3, .int (iI (-1))), (4, .int (iI (z3 - 1))), (5, .int (iI 0))]) C dX8_firstRead_41 (Nat.le_of_ble_eq_true rfl) [1, 2, 3, 4, 5, 0] rfl rfl ?_
        obtain ⟨I8, ⟨n08, h08⟩, hs8⟩ := h
        have L8 : ∀ (n8 : Nat) (v4_8 : Int) (v5_8 : Int), I8 n8 v4_8 v5_8 → V p l e rm_X8_firstRead s m args below meth c ad D cI cZ cG (Aw ad) 6 0 0 (MQ below (QI ad D cI cZ cG (fun z u => u = σ ∧ Post z)) args s 0 0 (Aw ad)) σ 43 [(0, .ref (ad 21)), (1, .ref (ad 10)), (2, .int (iI z3)), (3, .int (iI (-1))), (4, .int (iI v4_8)), (5, .int (iI v5_8))] [] := by
          intro n8
          induction n8 using Nat.strongRecOn with
          | ind n8 ih8 =>
            intro v4_8 v5_8 h
            have h := hs8 n8 v4_8 v5_8 h
            refine x_iload (q := 45) C dX8_firstRead_43 5 rfl rfl ?_
            refine x_iload_n (q := 46) (i := 2) C dX8_firstRead_45 rfl 2 rfl rfl ?_
            obtain ⟨o9, h⟩ := h
            obtain ⟨o10, h⟩ := h
            refine x_icmp_ge (q := 49) (tgt := 75) C dX8_firstRead_46 rfl ⟨o9, o10⟩ rfl (fun c11 => ?_) (fun c11 => ?_)
            · have h := h.1 c11
              refine x_bipush (q := 77) (z := (-9)) C dX8_firstRead_75 rfl rfl ?_
              exact x_iret C dX8_firstRead_77 ⟨rfl, h⟩
            · have h := h.2 c11
              refine x_aload_n (q := 50) (i := 0) C dX8_firstRead_49 rfl 0 rfl rfl ?_
              refine x_aload_n (q := 51) (i := 1) C dX8_firstRead_50 rfl 1 rfl rfl ?_
              refine x_iload (q := 53) C dX8_firstRead_51 4 rfl rfl ?_
              refine x_iload_n (q := 54) (i := 3) C dX8_firstRead_53 rfl 3 rfl rfl ?_
              refine x_virI (q := 57) C (Nat.le_of_ble_eq_true rfl) ly_21 rfl ck_RX8_45 vk_X8_isReadAt (m_X8_isReadAt l hI h) ⟨⟨rfl, rfl⟩, ⟨Nat.le_of_ble_eq_true rfl, Nat.le_of_ble_eq_true rfl⟩, ⟨Nat.zero_le _, Nat.zero_le _⟩⟩ dX8_firstRead_54 rfl rfl (Nat.le_of_ble_eq_true rfl) rfl (fun z12 σ12 h => ?_)
              rw [h.1]
              have h := h.2
              obtain ⟨o13, h⟩ := h
              refine x_if_eq (q := 60) (tgt := 63) C dX8_firstRead_57 rfl o13 rfl (fun c14 => ?_) (fun c14 => ?_)
              · have h := h.1 c14
                refine x_iload (q := 65) C dX8_firstRead_63 4 rfl rfl ?_
                refine x_iload_n (q := 66) (i := 3) C dX8_firstRead_65 rfl 3 rfl rfl ?_
                refine x_iadd (q := 67) C dX8_firstRead_66  rfl ?_
                refine x_istore (q := 69) (i := 4) (lv' := [(0, .ref (ad 21)), (1, .ref (ad 10)), (2, .int (iI z3)), (3, .int (iI (-1))), (4, .int (iI (v4_8 + (-1)))), (5, .int (iI v5_8))]) C dX8_firstRead_67 (Nat.le_of_ble_eq_true rfl) [1, 2, 3, 4, 0, 5] rfl rfl ?_
                refine x_iinc (q := 72) (z' := v5_8 + 1) (lv' := [(0, .ref (ad 21)), (1, .ref (ad 10)), (2, .int (iI z3)), (3, .int (iI (-1))), (4, .int (iI (v4_8 + (-1)))), (5, .int (iI (v5_8 + 1)))]) C dX8_firstRead_69 5 rfl rfl (Nat.le_of_ble_eq_true rfl) [1, 2, 3, 4, 5, 0] rfl rfl ?_
                refine x_goto (tgt := 43) C dX8_firstRead_72 rfl ?_
                obtain ⟨n15, hl16, h⟩ := h
                refine x_sub [0, 1, 2, 3, 4, 5] rfl ?_
                exact ih8 n15 hl16 _ _ h
              · have h := h.2 c14
                refine x_iload (q := 62) C dX8_firstRead_60 4 rfl rfl ?_
                exact x_iret C dX8_firstRead_62 ⟨rfl, h⟩
        exact L8 n08 (z3 - 1) 0 h08
      · have h := h.2 c7
        refine x_iconst (q := 32) (z := 0) C dX8_firstRead_31 rfl rfl ?_
        refine x_goto (tgt := 38) C dX8_firstRead_32 rfl ?_
        refine x_istore (q := 40) (i := 4) (lv' := [(0, .ref (ad 21)), (1, .ref (ad 10)), (2, .int (iI z3)), (3, .int (iI (-1))), (4, .int (iI 0))]) C dX8_firstRead_38 (Nat.le_of_ble_eq_true rfl) [1, 2, 3, 4, 0] rfl rfl ?_
        refine x_iconst (q := 41) (z := 0) C dX8_firstRead_40 rfl rfl ?_
        refine x_istore (q := 43) (i := 5) (lv' := [(0, .ref (ad 21)), (1, .ref (ad 10)), (2, .int (iI z3)), (3, .int (iI (-1))), (4, .int (iI 0)), (5, .int (iI 0))]) C dX8_firstRead_41 (Nat.le_of_ble_eq_true rfl) [1, 2, 3, 4, 5, 0] rfl rfl ?_
        obtain ⟨I17, ⟨n017, h017⟩, hs17⟩ := h
        have L17 : ∀ (n17 : Nat) (v4_17 : Int) (v5_17 : Int), I17 n17 v4_17 v5_17 → V p l e rm_X8_firstRead s m args below meth c ad D cI cZ cG (Aw ad) 6 0 0 (MQ below (QI ad D cI cZ cG (fun z u => u = σ ∧ Post z)) args s 0 0 (Aw ad)) σ 43 [(0, .ref (ad 21)), (1, .ref (ad 10)), (2, .int (iI z3)), (3, .int (iI (-1))), (4, .int (iI v4_17)), (5, .int (iI v5_17))] [] := by
          intro n17
          induction n17 using Nat.strongRecOn with
          | ind n17 ih17 =>
            intro v4_17 v5_17 h
            have h := hs17 n17 v4_17 v5_17 h
            refine x_iload (q := 45) C dX8_firstRead_43 5 rfl rfl ?_
            refine x_iload_n (q := 46) (i := 2) C dX8_firstRead_45 rfl 2 rfl rfl ?_
            obtain ⟨o18, h⟩ := h
            obtain ⟨o19, h⟩ := h
            refine x_icmp_ge (q := 49) (tgt := 75) C dX8_firstRead_46 rfl ⟨o18, o19⟩ rfl (fun c20 => ?_) (fun c20 => ?_)
            · have h := h.1 c20
              refine x_bipush (q := 77) (z := (-9)) C dX8_firstRead_75 rfl rfl ?_
              exact x_iret C dX8_firstRead_77 ⟨rfl, h⟩
            · have h := h.2 c20
              refine x_aload_n (q := 50) (i := 0) C dX8_firstRead_49 rfl 0 rfl rfl ?_
              refine x_aload_n (q := 51) (i := 1) C dX8_firstRead_50 rfl 1 rfl rfl ?_
              refine x_iload (q := 53) C dX8_firstRead_51 4 rfl rfl ?_
              refine x_iload_n (q := 54) (i := 3) C dX8_firstRead_53 rfl 3 rfl rfl ?_
              refine x_virI (q := 57) C (Nat.le_of_ble_eq_true rfl) ly_21 rfl ck_RX8_45 vk_X8_isReadAt (m_X8_isReadAt l hI h) ⟨⟨rfl, rfl⟩, ⟨Nat.le_of_ble_eq_true rfl, Nat.le_of_ble_eq_true rfl⟩, ⟨Nat.zero_le _, Nat.zero_le _⟩⟩ dX8_firstRead_54 rfl rfl (Nat.le_of_ble_eq_true rfl) rfl (fun z21 σ21 h => ?_)
              rw [h.1]
              have h := h.2
              obtain ⟨o22, h⟩ := h
              refine x_if_eq (q := 60) (tgt := 63) C dX8_firstRead_57 rfl o22 rfl (fun c23 => ?_) (fun c23 => ?_)
              · have h := h.1 c23
                refine x_iload (q := 65) C dX8_firstRead_63 4 rfl rfl ?_
                refine x_iload_n (q := 66) (i := 3) C dX8_firstRead_65 rfl 3 rfl rfl ?_
                refine x_iadd (q := 67) C dX8_firstRead_66  rfl ?_
                refine x_istore (q := 69) (i := 4) (lv' := [(0, .ref (ad 21)), (1, .ref (ad 10)), (2, .int (iI z3)), (3, .int (iI (-1))), (4, .int (iI (v4_17 + (-1)))), (5, .int (iI v5_17))]) C dX8_firstRead_67 (Nat.le_of_ble_eq_true rfl) [1, 2, 3, 4, 0, 5] rfl rfl ?_
                refine x_iinc (q := 72) (z' := v5_17 + 1) (lv' := [(0, .ref (ad 21)), (1, .ref (ad 10)), (2, .int (iI z3)), (3, .int (iI (-1))), (4, .int (iI (v4_17 + (-1)))), (5, .int (iI (v5_17 + 1)))]) C dX8_firstRead_69 5 rfl rfl (Nat.le_of_ble_eq_true rfl) [1, 2, 3, 4, 5, 0] rfl rfl ?_
                refine x_goto (tgt := 43) C dX8_firstRead_72 rfl ?_
                obtain ⟨n24, hl25, h⟩ := h
                refine x_sub [0, 1, 2, 3, 4, 5] rfl ?_
                exact ih17 n24 hl25 _ _ h
              · have h := h.2 c23
                refine x_iload (q := 62) C dX8_firstRead_60 4 rfl rfl ?_
                exact x_iret C dX8_firstRead_62 ⟨rfl, h⟩
        exact L17 n017 0 0 h017
    · have h := h.2 c6
      refine x_iconst (q := 22) (z := 1) C dX8_firstRead_21 rfl rfl ?_
      refine x_goto (tgt := 26) C dX8_firstRead_22 rfl ?_
      refine x_istore_n (q := 27) (i := 3) (lv' := [(0, .ref (ad 21)), (1, .ref (ad 10)), (2, .int (iI z3)), (3, .int (iI 1))]) C dX8_firstRead_26 rfl (Nat.le_of_ble_eq_true rfl) [1, 2, 3, 0] rfl rfl ?_
      refine x_iload_n (q := 28) (i := 3) C dX8_firstRead_27 rfl 3 rfl rfl ?_
      refine x_if_le (q := 31) (tgt := 35) C dX8_firstRead_28 rfl (by decide) rfl (fun c26 => ?_) (fun c26 => ?_)
      · have h := h.1 c26
        refine x_iload_n (q := 36) (i := 2) C dX8_firstRead_35 rfl 2 rfl rfl ?_
        refine x_iconst (q := 37) (z := 1) C dX8_firstRead_36 rfl rfl ?_
        refine x_isub (q := 38) C dX8_firstRead_37  rfl ?_
        refine x_istore (q := 40) (i := 4) (lv' := [(0, .ref (ad 21)), (1, .ref (ad 10)), (2, .int (iI z3)), (3, .int (iI 1)), (4, .int (iI (z3 - 1)))]) C dX8_firstRead_38 (Nat.le_of_ble_eq_true rfl) [1, 2, 3, 4, 0] rfl rfl ?_
        refine x_iconst (q := 41) (z := 0) C dX8_firstRead_40 rfl rfl ?_
        refine x_istore (q := 43) (i := 5) (lv' := [(0, .ref (ad 21)), (1, .ref (ad 10)), (2, .int (iI z3)), (3, .int (iI 1)), (4, .int (iI (z3 - 1))), (5, .int (iI 0))]) C dX8_firstRead_41 (Nat.le_of_ble_eq_true rfl) [1, 2, 3, 4, 5, 0] rfl rfl ?_
        obtain ⟨I27, ⟨n027, h027⟩, hs27⟩ := h
        have L27 : ∀ (n27 : Nat) (v4_27 : Int) (v5_27 : Int), I27 n27 v4_27 v5_27 → V p l e rm_X8_firstRead s m args below meth c ad D cI cZ cG (Aw ad) 6 0 0 (MQ below (QI ad D cI cZ cG (fun z u => u = σ ∧ Post z)) args s 0 0 (Aw ad)) σ 43 [(0, .ref (ad 21)), (1, .ref (ad 10)), (2, .int (iI z3)), (3, .int (iI 1)), (4, .int (iI v4_27)), (5, .int (iI v5_27))] [] := by
          intro n27
          induction n27 using Nat.strongRecOn with
          | ind n27 ih27 =>
            intro v4_27 v5_27 h
            have h := hs27 n27 v4_27 v5_27 h
            refine x_iload (q := 45) C dX8_firstRead_43 5 rfl rfl ?_
            refine x_iload_n (q := 46) (i := 2) C dX8_firstRead_45 rfl 2 rfl rfl ?_
            obtain ⟨o28, h⟩ := h
            obtain ⟨o29, h⟩ := h
            refine x_icmp_ge (q := 49) (tgt := 75) C dX8_firstRead_46 rfl ⟨o28, o29⟩ rfl (fun c30 => ?_) (fun c30 => ?_)
            · have h := h.1 c30
              refine x_bipush (q := 77) (z := (-9)) C dX8_firstRead_75 rfl rfl ?_
              exact x_iret C dX8_firstRead_77 ⟨rfl, h⟩
            · have h := h.2 c30
              refine x_aload_n (q := 50) (i := 0) C dX8_firstRead_49 rfl 0 rfl rfl ?_
              refine x_aload_n (q := 51) (i := 1) C dX8_firstRead_50 rfl 1 rfl rfl ?_
              refine x_iload (q := 53) C dX8_firstRead_51 4 rfl rfl ?_
              refine x_iload_n (q := 54) (i := 3) C dX8_firstRead_53 rfl 3 rfl rfl ?_
              refine x_virI (q := 57) C (Nat.le_of_ble_eq_true rfl) ly_21 rfl ck_RX8_45 vk_X8_isReadAt (m_X8_isReadAt l hI h) ⟨⟨rfl, rfl⟩, ⟨Nat.le_of_ble_eq_true rfl, Nat.le_of_ble_eq_true rfl⟩, ⟨Nat.zero_le _, Nat.zero_le _⟩⟩ dX8_firstRead_54 rfl rfl (Nat.le_of_ble_eq_true rfl) rfl (fun z31 σ31 h => ?_)
              rw [h.1]
              have h := h.2
              obtain ⟨o32, h⟩ := h
              refine x_if_eq (q := 60) (tgt := 63) C dX8_firstRead_57 rfl o32 rfl (fun c33 => ?_) (fun c33 => ?_)
              · have h := h.1 c33
                refine x_iload (q := 65) C dX8_firstRead_63 4 rfl rfl ?_
                refine x_iload_n (q := 66) (i := 3) C dX8_firstRead_65 rfl 3 rfl rfl ?_
                refine x_iadd (q := 67) C dX8_firstRead_66  rfl ?_
                refine x_istore (q := 69) (i := 4) (lv' := [(0, .ref (ad 21)), (1, .ref (ad 10)), (2, .int (iI z3)), (3, .int (iI 1)), (4, .int (iI (v4_27 + 1))), (5, .int (iI v5_27))]) C dX8_firstRead_67 (Nat.le_of_ble_eq_true rfl) [1, 2, 3, 4, 0, 5] rfl rfl ?_
                refine x_iinc (q := 72) (z' := v5_27 + 1) (lv' := [(0, .ref (ad 21)), (1, .ref (ad 10)), (2, .int (iI z3)), (3, .int (iI 1)), (4, .int (iI (v4_27 + 1))), (5, .int (iI (v5_27 + 1)))]) C dX8_firstRead_69 5 rfl rfl (Nat.le_of_ble_eq_true rfl) [1, 2, 3, 4, 5, 0] rfl rfl ?_
                refine x_goto (tgt := 43) C dX8_firstRead_72 rfl ?_
                obtain ⟨n34, hl35, h⟩ := h
                refine x_sub [0, 1, 2, 3, 4, 5] rfl ?_
                exact ih27 n34 hl35 _ _ h
              · have h := h.2 c33
                refine x_iload (q := 62) C dX8_firstRead_60 4 rfl rfl ?_
                exact x_iret C dX8_firstRead_62 ⟨rfl, h⟩
        exact L27 n027 (z3 - 1) 0 h027
      · have h := h.2 c26
        refine x_iconst (q := 32) (z := 0) C dX8_firstRead_31 rfl rfl ?_
        refine x_goto (tgt := 38) C dX8_firstRead_32 rfl ?_
        refine x_istore (q := 40) (i := 4) (lv' := [(0, .ref (ad 21)), (1, .ref (ad 10)), (2, .int (iI z3)), (3, .int (iI 1)), (4, .int (iI 0))]) C dX8_firstRead_38 (Nat.le_of_ble_eq_true rfl) [1, 2, 3, 4, 0] rfl rfl ?_
        refine x_iconst (q := 41) (z := 0) C dX8_firstRead_40 rfl rfl ?_
        refine x_istore (q := 43) (i := 5) (lv' := [(0, .ref (ad 21)), (1, .ref (ad 10)), (2, .int (iI z3)), (3, .int (iI 1)), (4, .int (iI 0)), (5, .int (iI 0))]) C dX8_firstRead_41 (Nat.le_of_ble_eq_true rfl) [1, 2, 3, 4, 5, 0] rfl rfl ?_
        obtain ⟨I36, ⟨n036, h036⟩, hs36⟩ := h
        have L36 : ∀ (n36 : Nat) (v4_36 : Int) (v5_36 : Int), I36 n36 v4_36 v5_36 → V p l e rm_X8_firstRead s m args below meth c ad D cI cZ cG (Aw ad) 6 0 0 (MQ below (QI ad D cI cZ cG (fun z u => u = σ ∧ Post z)) args s 0 0 (Aw ad)) σ 43 [(0, .ref (ad 21)), (1, .ref (ad 10)), (2, .int (iI z3)), (3, .int (iI 1)), (4, .int (iI v4_36)), (5, .int (iI v5_36))] [] := by
          intro n36
          induction n36 using Nat.strongRecOn with
          | ind n36 ih36 =>
            intro v4_36 v5_36 h
            have h := hs36 n36 v4_36 v5_36 h
            refine x_iload (q := 45) C dX8_firstRead_43 5 rfl rfl ?_
            refine x_iload_n (q := 46) (i := 2) C dX8_firstRead_45 rfl 2 rfl rfl ?_
            obtain ⟨o37, h⟩ := h
            obtain ⟨o38, h⟩ := h
            refine x_icmp_ge (q := 49) (tgt := 75) C dX8_firstRead_46 rfl ⟨o37, o38⟩ rfl (fun c39 => ?_) (fun c39 => ?_)
            · have h := h.1 c39
              refine x_bipush (q := 77) (z := (-9)) C dX8_firstRead_75 rfl rfl ?_
              exact x_iret C dX8_firstRead_77 ⟨rfl, h⟩
            · have h := h.2 c39
              refine x_aload_n (q := 50) (i := 0) C dX8_firstRead_49 rfl 0 rfl rfl ?_
              refine x_aload_n (q := 51) (i := 1) C dX8_firstRead_50 rfl 1 rfl rfl ?_
              refine x_iload (q := 53) C dX8_firstRead_51 4 rfl rfl ?_
              refine x_iload_n (q := 54) (i := 3) C dX8_firstRead_53 rfl 3 rfl rfl ?_
              refine x_virI (q := 57) C (Nat.le_of_ble_eq_true rfl) ly_21 rfl ck_RX8_45 vk_X8_isReadAt (m_X8_isReadAt l hI h) ⟨⟨rfl, rfl⟩, ⟨Nat.le_of_ble_eq_true rfl, Nat.le_of_ble_eq_true rfl⟩, ⟨Nat.zero_le _, Nat.zero_le _⟩⟩ dX8_firstRead_54 rfl rfl (Nat.le_of_ble_eq_true rfl) rfl (fun z40 σ40 h => ?_)
              rw [h.1]
              have h := h.2
              obtain ⟨o41, h⟩ := h
              refine x_if_eq (q := 60) (tgt := 63) C dX8_firstRead_57 rfl o41 rfl (fun c42 => ?_) (fun c42 => ?_)
              · have h := h.1 c42
                refine x_iload (q := 65) C dX8_firstRead_63 4 rfl rfl ?_
                refine x_iload_n (q := 66) (i := 3) C dX8_firstRead_65 rfl 3 rfl rfl ?_
                refine x_iadd (q := 67) C dX8_firstRead_66  rfl ?_
                refine x_istore (q := 69) (i := 4) (lv' := [(0, .ref (ad 21)), (1, .ref (ad 10)), (2, .int (iI z3)), (3, .int (iI 1)), (4, .int (iI (v4_36 + 1))), (5, .int (iI v5_36))]) C dX8_firstRead_67 (Nat.le_of_ble_eq_true rfl) [1, 2, 3, 4, 0, 5] rfl rfl ?_
                refine x_iinc (q := 72) (z' := v5_36 + 1) (lv' := [(0, .ref (ad 21)), (1, .ref (ad 10)), (2, .int (iI z3)), (3, .int (iI 1)), (4, .int (iI (v4_36 + 1))), (5, .int (iI (v5_36 + 1)))]) C dX8_firstRead_69 5 rfl rfl (Nat.le_of_ble_eq_true rfl) [1, 2, 3, 4, 5, 0] rfl rfl ?_
                refine x_goto (tgt := 43) C dX8_firstRead_72 rfl ?_
                obtain ⟨n43, hl44, h⟩ := h
                refine x_sub [0, 1, 2, 3, 4, 5] rfl ?_
                exact ih36 n43 hl44 _ _ h
              · have h := h.2 c42
                refine x_iload (q := 62) C dX8_firstRead_60 4 rfl rfl ?_
                exact x_iret C dX8_firstRead_62 ⟨rfl, h⟩
        exact L36 n036 0 0 h036
  · have h := h.2 c2
    refine x_iconst (q := 8) (z := 0) C dX8_firstRead_7 rfl rfl ?_
    exact x_iret C dX8_firstRead_8 ⟨rfl, h⟩
abbrev rm_X8_isRead : Room := { frames := 4, cells := 0, slots := 0, locals := 91 }
def vc_X8_isRead (σ : GS)  (Post : Int → Prop) : Prop :=
  vc_X8_firstRead σ  (fun (z1 : Int) =>
    (rg z1) ∧
  ((z1 = (-9) →
    (Post 0)) ∧
  (¬ z1 = (-9) →
    (Post 1))))
set_option maxHeartbeats 4000000 in
set_option maxRecDepth 10000 in
theorem m_X8_isRead (l : Launch) {ad : Nat → Nat} {D : va_G} {cI cZ cG : ClassId} (hI : Ij ad) {σ : GS}  {Post : Int → Prop} (h : vc_X8_isRead σ  Post) : Met l yX8_isRead (wX yX8_isRead cX8_isRead 2 (some .boolean)) rm_X8_isRead (va_Pc [.ref (ad 21), .ref (ad 10)] (Wd ad D cI cZ cG σ)) (QI ad D cI cZ cG (fun z u => u = σ ∧ Post z)) 0 0 (Aw ad) := by
  refine met_V (own := RX8) hI (by decide +kernel) rfl (Nat.le_of_ble_eq_true rfl) ?_
  intro p e s m args below meth c C
  unfold vc_X8_isRead at h
  show V p l e rm_X8_isRead s m args below meth c ad D cI cZ cG (Aw ad) 2 0 0 (MQ below (QI ad D cI cZ cG (fun z u => u = σ ∧ Post z)) args s 0 0 (Aw ad)) σ 0 [(0, .ref (ad 21)), (1, .ref (ad 10))] []
  refine x_aload_n (q := 1) (i := 0) C dX8_isRead_0 rfl 0 rfl rfl ?_
  refine x_aload_n (q := 2) (i := 1) C dX8_isRead_1 rfl 1 rfl rfl ?_
  refine x_virI (q := 5) C (Nat.le_of_ble_eq_true rfl) ly_21 rfl ck_RX8_32 vk_X8_firstRead (m_X8_firstRead l hI h) ⟨⟨rfl, rfl⟩, ⟨Nat.le_of_ble_eq_true rfl, Nat.le_of_ble_eq_true rfl⟩, ⟨Nat.zero_le _, Nat.zero_le _⟩⟩ dX8_isRead_2 rfl rfl (Nat.le_of_ble_eq_true rfl) rfl (fun z1 σ1 h => ?_)
  rw [h.1]
  have h := h.2
  refine x_bipush (q := 7) (z := (-9)) C dX8_isRead_5 rfl rfl ?_
  obtain ⟨o2, h⟩ := h
  refine x_icmp_eq (q := 10) (tgt := 14) C dX8_isRead_7 rfl ⟨o2, by decide⟩ rfl (fun c3 => ?_) (fun c3 => ?_)
  · have h := h.1 c3
    refine x_iconst (q := 15) (z := 0) C dX8_isRead_14 rfl rfl ?_
    exact x_zret C dX8_isRead_15 (by decide) ⟨rfl, h⟩
  · have h := h.2 c3
    refine x_iconst (q := 11) (z := 1) C dX8_isRead_10 rfl rfl ?_
    refine x_goto (tgt := 15) C dX8_isRead_11 rfl ?_
    exact x_zret C dX8_isRead_15 (by decide) ⟨rfl, h⟩
abbrev rm_X9_write : Room := { frames := 1, cells := 0, slots := 0, locals := 21 }
def vc_X9_write (σ : GS) (a0 : Int) (Post : Int → GS → Prop) : Prop :=
  (rg a0) ∧
  ((a0 < 0 →
    (Post (-2) σ)) ∧
  (¬ a0 < 0 →
    ((a0 ≤ 255 →
      (vc_X3_append σ a0 (fun (z4 : Int) (σ4 : GS) =>
        (rg z4) ∧
      ((z4 = 0 →
        (Post (-4) σ4)) ∧
      (¬ z4 = 0 →
        (vc_X3_length σ4  (fun (z7 : Int) =>
          Post z7 σ4))))))) ∧
    (¬ a0 ≤ 255 →
      (Post (-2) σ)))))
set_option maxHeartbeats 4000000 in
set_option maxRecDepth 10000 in
theorem m_X9_write (l : Launch) {ad : Nat → Nat} {D : va_G} {cI cZ cG : ClassId} (hI : Ij ad) {σ : GS} {a0 : Int} {Post : Int → GS → Prop} (h : vc_X9_write σ a0 Post) : Met l yX9_write (wX yX9_write cX9_write 2 (some .int)) rm_X9_write (va_Pc [.ref (ad 0), .int (iI a0)] (Wd ad D cI cZ cG σ)) (QI ad D cI cZ cG Post) 0 0 (Aw ad) := by
  refine met_V (own := RX9) hI (by decide +kernel) rfl (Nat.le_of_ble_eq_true rfl) ?_
  intro p e s m args below meth c C
  unfold vc_X9_write at h
  show V p l e rm_X9_write s m args below meth c ad D cI cZ cG (Aw ad) 2 0 0 (MQ below (QI ad D cI cZ cG Post) args s 0 0 (Aw ad)) σ 0 [(0, .ref (ad 0)), (1, .int (iI a0))] []
  refine x_iload_n (q := 1) (i := 1) C dX9_write_0 rfl 1 rfl rfl ?_
  obtain ⟨o1, h⟩ := h
  refine x_if_lt (q := 4) (tgt := 11) C dX9_write_1 rfl o1 rfl (fun c2 => ?_) (fun c2 => ?_)
  · have h := h.1 c2
    refine x_bipush (q := 13) (z := (-2)) C dX9_write_11 rfl rfl ?_
    exact x_iret C dX9_write_13 h
  · have h := h.2 c2
    refine x_iload_n (q := 5) (i := 1) C dX9_write_4 rfl 1 rfl rfl ?_
    refine x_sipush (q := 8) (z := 255) C dX9_write_5 rfl rfl ?_
    refine x_icmp_le (q := 11) (tgt := 14) C dX9_write_8 rfl ⟨o1, by decide⟩ rfl (fun c3 => ?_) (fun c3 => ?_)
    · have h := h.1 c3
      refine x_aload_n (q := 15) (i := 0) C dX9_write_14 rfl 0 rfl rfl ?_
      refine x_getR (q := 18) (c0 := 1) C (Nat.le_of_ble_eq_true rfl) ly_0 fk_RX9_12 rfl dX9_write_15 rfl ?_
      refine x_iload_n (q := 19) (i := 1) C dX9_write_18 rfl 1 rfl rfl ?_
      refine x_virI (q := 22) C (Nat.le_of_ble_eq_true rfl) ly_1 rfl ck_RX9_89 vk_X3_append (m_X3_append l hI h) ⟨⟨rfl, rfl⟩, ⟨Nat.le_of_ble_eq_true rfl, Nat.le_of_ble_eq_true rfl⟩, ⟨Nat.zero_le _, Nat.zero_le _⟩⟩ dX9_write_19 rfl rfl (Nat.le_of_ble_eq_true rfl) rfl (fun z4 σ4 h => ?_)
      obtain ⟨o5, h⟩ := h
      refine x_if_eq (q := 25) (tgt := 35) C dX9_write_22 rfl o5 rfl (fun c6 => ?_) (fun c6 => ?_)
      · have h := h.1 c6
        refine x_bipush (q := 37) (z := (-4)) C dX9_write_35 rfl rfl ?_
        exact x_iret C dX9_write_37 h
      · have h := h.2 c6
        refine x_aload_n (q := 26) (i := 0) C dX9_write_25 rfl 0 rfl rfl ?_
        refine x_getR (q := 29) (c0 := 1) C (Nat.le_of_ble_eq_true rfl) ly_0 fk_RX9_12 rfl dX9_write_26 rfl ?_
        refine x_virI (q := 32) C (Nat.le_of_ble_eq_true rfl) ly_1 rfl ck_RX9_93 vk_X3_length (m_X3_length l hI h) ⟨⟨rfl, rfl⟩, ⟨Nat.le_of_ble_eq_true rfl, Nat.le_of_ble_eq_true rfl⟩, ⟨Nat.zero_le _, Nat.zero_le _⟩⟩ dX9_write_29 rfl rfl (Nat.le_of_ble_eq_true rfl) rfl (fun z7 σ7 h => ?_)
        rw [h.1]
        have h := h.2
        refine x_goto (tgt := 37) C dX9_write_32 rfl ?_
        exact x_iret C dX9_write_37 h
    · have h := h.2 c3
      refine x_bipush (q := 13) (z := (-2)) C dX9_write_11 rfl rfl ?_
      exact x_iret C dX9_write_13 h
abbrev rm_X9_wipe : Room := { frames := 1, cells := 0, slots := 0, locals := 20 }
def vc_X9_wipe (σ : GS)  (Post : Int → GS → Prop) : Prop :=
  vc_X3_length σ  (fun (z1 : Int) =>
    vc_X3_clear σ  (fun (σ2 : GS) =>
    Post z1 σ2))
set_option maxHeartbeats 4000000 in
set_option maxRecDepth 10000 in
theorem m_X9_wipe (l : Launch) {ad : Nat → Nat} {D : va_G} {cI cZ cG : ClassId} (hI : Ij ad) {σ : GS}  {Post : Int → GS → Prop} (h : vc_X9_wipe σ  Post) : Met l yX9_wipe (wX yX9_wipe cX9_wipe 2 (some .int)) rm_X9_wipe (va_Pc [.ref (ad 0)] (Wd ad D cI cZ cG σ)) (QI ad D cI cZ cG Post) 0 0 (Aw ad) := by
  refine met_V (own := RX9) hI (by decide +kernel) rfl (Nat.le_of_ble_eq_true rfl) ?_
  intro p e s m args below meth c C
  unfold vc_X9_wipe at h
  show V p l e rm_X9_wipe s m args below meth c ad D cI cZ cG (Aw ad) 2 0 0 (MQ below (QI ad D cI cZ cG Post) args s 0 0 (Aw ad)) σ 0 [(0, .ref (ad 0))] []
  refine x_aload_n (q := 1) (i := 0) C dX9_wipe_0 rfl 0 rfl rfl ?_
  refine x_getR (q := 4) (c0 := 1) C (Nat.le_of_ble_eq_true rfl) ly_0 fk_RX9_12 rfl dX9_wipe_1 rfl ?_
  refine x_virI (q := 7) C (Nat.le_of_ble_eq_true rfl) ly_1 rfl ck_RX9_93 vk_X3_length (m_X3_length l hI h) ⟨⟨rfl, rfl⟩, ⟨Nat.le_of_ble_eq_true rfl, Nat.le_of_ble_eq_true rfl⟩, ⟨Nat.zero_le _, Nat.zero_le _⟩⟩ dX9_wipe_4 rfl rfl (Nat.le_of_ble_eq_true rfl) rfl (fun z1 σ1 h => ?_)
  rw [h.1]
  have h := h.2
  refine x_istore_n (q := 8) (i := 1) (lv' := [(0, .ref (ad 0)), (1, .int (iI z1))]) C dX9_wipe_7 rfl (Nat.le_of_ble_eq_true rfl) [1, 0] rfl rfl ?_
  refine x_aload_n (q := 9) (i := 0) C dX9_wipe_8 rfl 0 rfl rfl ?_
  refine x_getR (q := 12) (c0 := 1) C (Nat.le_of_ble_eq_true rfl) ly_0 fk_RX9_12 rfl dX9_wipe_9 rfl ?_
  refine x_virV (q := 15) C (Nat.le_of_ble_eq_true rfl) ly_1 rfl ck_RX9_97 vk_X3_clear (m_X3_clear l hI h) ⟨⟨rfl, rfl⟩, ⟨Nat.le_of_ble_eq_true rfl, Nat.le_of_ble_eq_true rfl⟩, ⟨Nat.zero_le _, Nat.zero_le _⟩⟩ dX9_wipe_12 rfl rfl (Nat.le_of_ble_eq_true rfl) rfl (fun σ2 h => ?_)
  refine x_iload_n (q := 16) (i := 1) C dX9_wipe_15 rfl 1 rfl rfl ?_
  exact x_iret C dX9_wipe_16 h
abbrev rm_X9_fault : Room := { frames := 3, cells := 0, slots := 0, locals := 62 }
def vc_X9_fault (σ : GS)  (Post : Int → Prop) : Prop :=
  vc_X3_firstFault σ  (fun (z1 : Int) =>
    Post z1)
set_option maxHeartbeats 4000000 in
set_option maxRecDepth 10000 in
theorem m_X9_fault (l : Launch) {ad : Nat → Nat} {D : va_G} {cI cZ cG : ClassId} (hI : Ij ad) {σ : GS}  {Post : Int → Prop} (h : vc_X9_fault σ  Post) : Met l yX9_fault (wX yX9_fault cX9_fault 1 (some .int)) rm_X9_fault (va_Pc [.ref (ad 0)] (Wd ad D cI cZ cG σ)) (QI ad D cI cZ cG (fun z u => u = σ ∧ Post z)) 0 0 (Aw ad) := by
  refine met_V (own := RX9) hI (by decide +kernel) rfl (Nat.le_of_ble_eq_true rfl) ?_
  intro p e s m args below meth c C
  unfold vc_X9_fault at h
  show V p l e rm_X9_fault s m args below meth c ad D cI cZ cG (Aw ad) 1 0 0 (MQ below (QI ad D cI cZ cG (fun z u => u = σ ∧ Post z)) args s 0 0 (Aw ad)) σ 0 [(0, .ref (ad 0))] []
  refine x_aload_n (q := 1) (i := 0) C dX9_fault_0 rfl 0 rfl rfl ?_
  refine x_getR (q := 4) (c0 := 1) C (Nat.le_of_ble_eq_true rfl) ly_0 fk_RX9_12 rfl dX9_fault_1 rfl ?_
  refine x_virI (q := 7) C (Nat.le_of_ble_eq_true rfl) ly_1 rfl ck_RX9_100 vk_X3_firstFault (m_X3_firstFault l hI h) ⟨⟨rfl, rfl⟩, ⟨Nat.le_of_ble_eq_true rfl, Nat.le_of_ble_eq_true rfl⟩, ⟨Nat.zero_le _, Nat.zero_le _⟩⟩ dX9_fault_4 rfl rfl (Nat.le_of_ble_eq_true rfl) rfl (fun z1 σ1 h => ?_)
  rw [h.1]
  have h := h.2
  exact x_iret C dX9_fault_7 ⟨rfl, h⟩
abbrev rm_X9_fan : Room := { frames := 3, cells := 0, slots := 0, locals := 62 }
def vc_X9_fan (σ : GS)  (Post : Int → GS → Prop) : Prop :=
  vc_X3_firstFault σ  (fun (z1 : Int) =>
    (rg z1) ∧
  ((z1 = (-9) →
    (vc_X1_take σ  (fun (σ4 : GS) =>
      vc_X2_clear σ4 6 (fun (σ5 : GS) =>
      vc_X0_clear σ5  (fun (σ6 : GS) =>
      vc_X4_clear σ6  (fun (σ7 : GS) =>
      vc_X1_size σ7  (fun (z8 : Int) =>
      Post z8 σ7))))))) ∧
  (¬ z1 = (-9) →
    (Post (-3) σ))))
set_option maxHeartbeats 4000000 in
set_option maxRecDepth 10000 in
theorem m_X9_fan (l : Launch) {ad : Nat → Nat} {D : va_G} {cI cZ cG : ClassId} (hI : Ij ad) {σ : GS}  {Post : Int → GS → Prop} (h : vc_X9_fan σ  Post) : Met l yX9_fan (wX yX9_fan cX9_fan 1 (some .int)) rm_X9_fan (va_Pc [.ref (ad 0)] (Wd ad D cI cZ cG σ)) (QI ad D cI cZ cG Post) 0 0 (Aw ad) := by
  refine met_V (own := RX9) hI (by decide +kernel) rfl (Nat.le_of_ble_eq_true rfl) ?_
  intro p e s m args below meth c C
  unfold vc_X9_fan at h
  show V p l e rm_X9_fan s m args below meth c ad D cI cZ cG (Aw ad) 1 0 0 (MQ below (QI ad D cI cZ cG Post) args s 0 0 (Aw ad)) σ 0 [(0, .ref (ad 0))] []
  refine x_aload_n (q := 1) (i := 0) C dX9_fan_0 rfl 0 rfl rfl ?_
  refine x_getR (q := 4) (c0 := 1) C (Nat.le_of_ble_eq_true rfl) ly_0 fk_RX9_12 rfl dX9_fan_1 rfl ?_
  refine x_virI (q := 7) C (Nat.le_of_ble_eq_true rfl) ly_1 rfl ck_RX9_100 vk_X3_firstFault (m_X3_firstFault l hI h) ⟨⟨rfl, rfl⟩, ⟨Nat.le_of_ble_eq_true rfl, Nat.le_of_ble_eq_true rfl⟩, ⟨Nat.zero_le _, Nat.zero_le _⟩⟩ dX9_fan_4 rfl rfl (Nat.le_of_ble_eq_true rfl) rfl (fun z1 σ1 h => ?_)
  rw [h.1]
  have h := h.2
  refine x_bipush (q := 9) (z := (-9)) C dX9_fan_7 rfl rfl ?_
  obtain ⟨o2, h⟩ := h
  refine x_icmp_eq (q := 12) (tgt := 15) C dX9_fan_9 rfl ⟨o2, by decide⟩ rfl (fun c3 => ?_) (fun c3 => ?_)
  · have h := h.1 c3
    refine x_aload_n (q := 16) (i := 0) C dX9_fan_15 rfl 0 rfl rfl ?_
    refine x_getR (q := 19) (c0 := 3) C (Nat.le_of_ble_eq_true rfl) ly_0 fk_RX9_19 rfl dX9_fan_16 rfl ?_
    refine x_aload_n (q := 20) (i := 0) C dX9_fan_19 rfl 0 rfl rfl ?_
    refine x_getR (q := 23) (c0 := 1) C (Nat.le_of_ble_eq_true rfl) ly_0 fk_RX9_12 rfl dX9_fan_20 rfl ?_
    refine x_virV (q := 26) C (Nat.le_of_ble_eq_true rfl) ly_3 rfl ck_RX9_103 vk_X1_take (m_X1_take l hI h) ⟨⟨rfl, rfl⟩, ⟨Nat.le_of_ble_eq_true rfl, Nat.le_of_ble_eq_true rfl⟩, ⟨Nat.zero_le _, Nat.zero_le _⟩⟩ dX9_fan_23 rfl rfl (Nat.le_of_ble_eq_true rfl) rfl (fun σ4 h => ?_)
    refine x_aload_n (q := 27) (i := 0) C dX9_fan_26 rfl 0 rfl rfl ?_
    refine x_getR (q := 30) (c0 := 6) C (Nat.le_of_ble_eq_true rfl) ly_0 fk_RX9_28 rfl dX9_fan_27 rfl ?_
    refine x_virV (q := 33) C (Nat.le_of_ble_eq_true rfl) ly_6 rfl ck_RX9_107 vk_X2_clear (m_X2_clear l hI h) ⟨⟨rfl, rfl⟩, ⟨Nat.le_of_ble_eq_true rfl, Nat.le_of_ble_eq_true rfl⟩, ⟨Nat.zero_le _, Nat.zero_le _⟩⟩ dX9_fan_30 rfl rfl (Nat.le_of_ble_eq_true rfl) rfl (fun σ5 h => ?_)
    refine x_aload_n (q := 34) (i := 0) C dX9_fan_33 rfl 0 rfl rfl ?_
    refine x_getR (q := 37) (c0 := 23) C (Nat.le_of_ble_eq_true rfl) ly_0 fk_RX9_61 rfl dX9_fan_34 rfl ?_
    refine x_virV (q := 40) C (Nat.le_of_ble_eq_true rfl) ly_23 rfl ck_RX9_108 vk_X0_clear (m_X0_clear l hI h) ⟨⟨rfl, rfl⟩, ⟨Nat.le_of_ble_eq_true rfl, Nat.le_of_ble_eq_true rfl⟩, ⟨Nat.zero_le _, Nat.zero_le _⟩⟩ dX9_fan_37 rfl rfl (Nat.le_of_ble_eq_true rfl) rfl (fun σ6 h => ?_)
    refine x_aload_n (q := 41) (i := 0) C dX9_fan_40 rfl 0 rfl rfl ?_
    refine x_getR (q := 44) (c0 := 39) C (Nat.le_of_ble_eq_true rfl) ly_0 fk_RX9_68 rfl dX9_fan_41 rfl ?_
    refine x_virV (q := 47) C (Nat.le_of_ble_eq_true rfl) ly_39 rfl ck_RX9_109 vk_X4_clear (m_X4_clear l hI h) ⟨⟨rfl, rfl⟩, ⟨Nat.le_of_ble_eq_true rfl, Nat.le_of_ble_eq_true rfl⟩, ⟨Nat.zero_le _, Nat.zero_le _⟩⟩ dX9_fan_44 rfl rfl (Nat.le_of_ble_eq_true rfl) rfl (fun σ7 h => ?_)
    refine x_aload_n (q := 48) (i := 0) C dX9_fan_47 rfl 0 rfl rfl ?_
    refine x_getR (q := 51) (c0 := 3) C (Nat.le_of_ble_eq_true rfl) ly_0 fk_RX9_19 rfl dX9_fan_48 rfl ?_
    refine x_virI (q := 54) C (Nat.le_of_ble_eq_true rfl) ly_3 rfl ck_RX9_110 vk_X1_size (m_X1_size l hI h) ⟨⟨rfl, rfl⟩, ⟨Nat.le_of_ble_eq_true rfl, Nat.le_of_ble_eq_true rfl⟩, ⟨Nat.zero_le _, Nat.zero_le _⟩⟩ dX9_fan_51 rfl rfl (Nat.le_of_ble_eq_true rfl) rfl (fun z8 σ8 h => ?_)
    rw [h.1]
    have h := h.2
    exact x_iret C dX9_fan_54 h
  · have h := h.2 c3
    refine x_bipush (q := 14) (z := (-3)) C dX9_fan_12 rfl rfl ?_
    exact x_iret C dX9_fan_14 h
abbrev rm_X9_tenTo : Room := { frames := 0, cells := 0, slots := 0, locals := 0 }
def vc_X9_tenTo (σ : GS) (a0 : Int) (Post : Int → Prop) : Prop :=
  ∃ I1 : Nat → Int → Int → Prop, (∃ n : Nat, I1 n 1 0) ∧ ∀ (n1 : Nat) (v1_1 : Int) (v3_1 : Int), I1 n1 v1_1 v3_1 →
  ((rg v3_1) ∧
      ((rg a0) ∧
      ((a0 ≤ v3_1 →
        (Post v1_1)) ∧
      (¬ a0 ≤ v3_1 →
        (∃ n' : Nat, n' < n1 ∧ I1 n' (v1_1 * 10) (v3_1 + 1))))))
set_option maxHeartbeats 4000000 in
set_option maxRecDepth 10000 in
theorem m_X9_tenTo (l : Launch) {ad : Nat → Nat} {D : va_G} {cI cZ cG : ClassId} (hI : Ij ad) {σ : GS} {a0 : Int} {Post : Int → Prop} (h : vc_X9_tenTo σ a0 Post) : Met l yX9_tenTo (wX yX9_tenTo cX9_tenTo 4 (some .long)) rm_X9_tenTo (va_Pc [.int (iI a0)] (Wd ad D cI cZ cG σ)) (QL ad D cI cZ cG (fun z u => u = σ ∧ Post z)) 0 0 (Aw ad) := by
  refine met_V (own := RX9) hI (by decide +kernel) rfl (Nat.le_of_ble_eq_true rfl) ?_
  intro p e s m args below meth c C
  unfold vc_X9_tenTo at h
  show V p l e rm_X9_tenTo s m args below meth c ad D cI cZ cG (Aw ad) 4 0 0 (MQ below (QL ad D cI cZ cG (fun z u => u = σ ∧ Post z)) args s 0 0 (Aw ad)) σ 0 [(0, .int (iI a0))] []
  refine x_lconst (q := 1) (z := 1) C dX9_tenTo_0 rfl rfl ?_
  refine x_lstore_n (q := 2) (i := 1) (lv' := [(0, .int (iI a0)), (1, .long (lI 1))]) C dX9_tenTo_1 rfl (Nat.le_of_ble_eq_true rfl) [1, 0] rfl rfl ?_
  refine x_iconst (q := 3) (z := 0) C dX9_tenTo_2 rfl rfl ?_
  refine x_istore_n (q := 4) (i := 3) (lv' := [(0, .int (iI a0)), (1, .long (lI 1)), (3, .int (iI 0))]) C dX9_tenTo_3 rfl (Nat.le_of_ble_eq_true rfl) [1, 2, 0] rfl rfl ?_
  obtain ⟨I1, ⟨n01, h01⟩, hs1⟩ := h
  have L1 : ∀ (n1 : Nat) (v1_1 : Int) (v3_1 : Int), I1 n1 v1_1 v3_1 → V p l e rm_X9_tenTo s m args below meth c ad D cI cZ cG (Aw ad) 4 0 0 (MQ below (QL ad D cI cZ cG (fun z u => u = σ ∧ Post z)) args s 0 0 (Aw ad)) σ 4 [(0, .int (iI a0)), (1, .long (lI v1_1)), (3, .int (iI v3_1))] [] := by
    intro n1
    induction n1 using Nat.strongRecOn with
    | ind n1 ih1 =>
      intro v1_1 v3_1 h
      have h := hs1 n1 v1_1 v3_1 h
      refine x_iload_n (q := 5) (i := 3) C dX9_tenTo_4 rfl 2 rfl rfl ?_
      refine x_iload_n (q := 6) (i := 0) C dX9_tenTo_5 rfl 0 rfl rfl ?_
      obtain ⟨o2, h⟩ := h
      obtain ⟨o3, h⟩ := h
      refine x_icmp_ge (q := 9) (tgt := 21) C dX9_tenTo_6 rfl ⟨o2, o3⟩ rfl (fun c4 => ?_) (fun c4 => ?_)
      · have h := h.1 c4
        refine x_lload_n (q := 22) (i := 1) C dX9_tenTo_21 rfl 1 rfl rfl ?_
        exact x_lret C dX9_tenTo_22 ⟨rfl, h⟩
      · have h := h.2 c4
        refine x_lload_n (q := 10) (i := 1) C dX9_tenTo_9 rfl 1 rfl rfl ?_
        refine x_ldc2 (q := 13) (z := 10) C dX9_tenTo_10 t2_50 rfl rfl ?_
        refine x_lmul (q := 14) C dX9_tenTo_13  rfl ?_
        refine x_lstore_n (q := 15) (i := 1) (lv' := [(0, .int (iI a0)), (1, .long (lI (v1_1 * 10))), (3, .int (iI v3_1))]) C dX9_tenTo_14 rfl (Nat.le_of_ble_eq_true rfl) [1, 0, 2] rfl rfl ?_
        refine x_iinc (q := 18) (z' := v3_1 + 1) (lv' := [(0, .int (iI a0)), (1, .long (lI (v1_1 * 10))), (3, .int (iI (v3_1 + 1)))]) C dX9_tenTo_15 2 rfl rfl (Nat.le_of_ble_eq_true rfl) [1, 2, 0] rfl rfl ?_
        refine x_goto (tgt := 4) C dX9_tenTo_18 rfl ?_
        obtain ⟨n5, hl6, h⟩ := h
        refine x_sub [0, 1, 2] rfl ?_
        exact ih1 n5 hl6 _ _ h
  exact L1 n01 1 0 h01
abbrev rm_X9_hasFigures : Room := { frames := 1, cells := 0, slots := 0, locals := 23 }
def vc_X9_hasFigures (σ : GS) (a0 : Int) (a1 : Int) (Post : Int → Prop) : Prop :=
  (rg (lc a0 0)) ∧
  (((lc a0 0) < 0 →
    (Post 0)) ∧
  (¬ (lc a0 0) < 0 →
    (vc_X9_tenTo σ a1 (fun (z3 : Int) =>
      (rg (lc a0 z3)) ∧
    (((0 : Int) ≤ (lc a0 z3) →
      (Post 0)) ∧
    (¬ (0 : Int) ≤ (lc a0 z3) →
      (Post 1)))))))
set_option maxHeartbeats 4000000 in
set_option maxRecDepth 10000 in
theorem m_X9_hasFigures (l : Launch) {ad : Nat → Nat} {D : va_G} {cI cZ cG : ClassId} (hI : Ij ad) {σ : GS} {a0 : Int} {a1 : Int} {Post : Int → Prop} (h : vc_X9_hasFigures σ a0 a1 Post) : Met l yX9_hasFigures (wX yX9_hasFigures cX9_hasFigures 3 (some .boolean)) rm_X9_hasFigures (va_Pc [.long (lI a0), .int (iI a1)] (Wd ad D cI cZ cG σ)) (QI ad D cI cZ cG (fun z u => u = σ ∧ Post z)) 0 0 (Aw ad) := by
  refine met_V (own := RX9) hI (by decide +kernel) rfl (Nat.le_of_ble_eq_true rfl) ?_
  intro p e s m args below meth c C
  unfold vc_X9_hasFigures at h
  show V p l e rm_X9_hasFigures s m args below meth c ad D cI cZ cG (Aw ad) 3 0 0 (MQ below (QI ad D cI cZ cG (fun z u => u = σ ∧ Post z)) args s 0 0 (Aw ad)) σ 0 [(0, .long (lI a0)), (2, .int (iI a1))] []
  refine x_lload_n (q := 1) (i := 0) C dX9_hasFigures_0 rfl 0 rfl rfl ?_
  refine x_lconst (q := 2) (z := 0) C dX9_hasFigures_1 rfl rfl ?_
  refine x_lcmp (q := 3) C dX9_hasFigures_2  rfl ?_
  obtain ⟨o1, h⟩ := h
  refine x_if_lt (q := 6) (tgt := 19) C dX9_hasFigures_3 rfl o1 rfl (fun c2 => ?_) (fun c2 => ?_)
  · have h := h.1 c2
    refine x_iconst (q := 20) (z := 0) C dX9_hasFigures_19 rfl rfl ?_
    exact x_zret C dX9_hasFigures_20 (by decide) ⟨rfl, h⟩
  · have h := h.2 c2
    refine x_lload_n (q := 7) (i := 0) C dX9_hasFigures_6 rfl 0 rfl rfl ?_
    refine x_iload_n (q := 8) (i := 2) C dX9_hasFigures_7 rfl 1 rfl rfl ?_
    refine x_staL (q := 11) C ck_RX9_289 t2_48 (m_X9_tenTo l hI h) ⟨⟨rfl, rfl⟩, ⟨Nat.le_of_ble_eq_true rfl, Nat.le_of_ble_eq_true rfl⟩, ⟨Nat.zero_le _, Nat.zero_le _⟩⟩ dX9_hasFigures_8 rfl rfl (Nat.le_of_ble_eq_true rfl) rfl (fun z3 σ3 h => ?_)
    rw [h.1]
    have h := h.2
    refine x_lcmp (q := 12) C dX9_hasFigures_11  rfl ?_
    obtain ⟨o4, h⟩ := h
    refine x_if_ge (q := 15) (tgt := 19) C dX9_hasFigures_12 rfl o4 rfl (fun c5 => ?_) (fun c5 => ?_)
    · have h := h.1 c5
      refine x_iconst (q := 20) (z := 0) C dX9_hasFigures_19 rfl rfl ?_
      exact x_zret C dX9_hasFigures_20 (by decide) ⟨rfl, h⟩
    · have h := h.2 c5
      refine x_iconst (q := 16) (z := 1) C dX9_hasFigures_15 rfl rfl ?_
      refine x_goto (tgt := 20) C dX9_hasFigures_16 rfl ?_
      exact x_zret C dX9_hasFigures_20 (by decide) ⟨rfl, h⟩
abbrev rm_X9_areLetters : Room := { frames := 0, cells := 0, slots := 0, locals := 0 }
def vc_X9_areLetters (σ : GS) (a0 : Int) (a1 : Int) (Post : Int → Prop) : Prop :=
  ∃ I1 : Nat → Int → Int → Prop, (∃ n : Nat, I1 n a1 0) ∧ ∀ (n1 : Nat) (v3_1 : Int) (v5_1 : Int), I1 n1 v3_1 v5_1 →
  ((rg v5_1) ∧
      ((rg a0) ∧
      ((a0 ≤ v5_1 →
        (Post 1)) ∧
      (¬ a0 ≤ v5_1 →
        ((0 ≤ v3_1 ∧ v3_1 ≤ 9223372036854775807) ∧
        ((rg (lc (v3_1 % 100) 25)) ∧
        (((lc (v3_1 % 100) 25) ≤ 0 →
          (∃ n' : Nat, n' < n1 ∧ I1 n' (v3_1 / 100) (v5_1 + 1))) ∧
        (¬ (lc (v3_1 % 100) 25) ≤ 0 →
          (Post 0)))))))))
set_option maxHeartbeats 4000000 in
set_option maxRecDepth 10000 in
theorem m_X9_areLetters (l : Launch) {ad : Nat → Nat} {D : va_G} {cI cZ cG : ClassId} (hI : Ij ad) {σ : GS} {a0 : Int} {a1 : Int} {Post : Int → Prop} (h : vc_X9_areLetters σ a0 a1 Post) : Met l yX9_areLetters (wX yX9_areLetters cX9_areLetters 6 (some .boolean)) rm_X9_areLetters (va_Pc [.int (iI a0), .long (lI a1)] (Wd ad D cI cZ cG σ)) (QI ad D cI cZ cG (fun z u => u = σ ∧ Post z)) 0 0 (Aw ad) := by
  refine met_V (own := RX9) hI (by decide +kernel) rfl (Nat.le_of_ble_eq_true rfl) ?_
  intro p e s m args below meth c C
  unfold vc_X9_areLetters at h
  show V p l e rm_X9_areLetters s m args below meth c ad D cI cZ cG (Aw ad) 6 0 0 (MQ below (QI ad D cI cZ cG (fun z u => u = σ ∧ Post z)) args s 0 0 (Aw ad)) σ 0 [(0, .int (iI a0)), (1, .long (lI a1))] []
  refine x_lload_n (q := 1) (i := 1) C dX9_areLetters_0 rfl 1 rfl rfl ?_
  refine x_lstore_n (q := 2) (i := 3) (lv' := [(0, .int (iI a0)), (1, .long (lI a1)), (3, .long (lI a1))]) C dX9_areLetters_1 rfl (Nat.le_of_ble_eq_true rfl) [1, 2, 0] rfl rfl ?_
  refine x_iconst (q := 3) (z := 0) C dX9_areLetters_2 rfl rfl ?_
  refine x_istore (q := 5) (i := 5) (lv' := [(0, .int (iI a0)), (1, .long (lI a1)), (3, .long (lI a1)), (5, .int (iI 0))]) C dX9_areLetters_3 (Nat.le_of_ble_eq_true rfl) [1, 2, 3, 0] rfl rfl ?_
  obtain ⟨I1, ⟨n01, h01⟩, hs1⟩ := h
  have L1 : ∀ (n1 : Nat) (v3_1 : Int) (v5_1 : Int), I1 n1 v3_1 v5_1 → V p l e rm_X9_areLetters s m args below meth c ad D cI cZ cG (Aw ad) 6 0 0 (MQ below (QI ad D cI cZ cG (fun z u => u = σ ∧ Post z)) args s 0 0 (Aw ad)) σ 5 [(0, .int (iI a0)), (1, .long (lI a1)), (3, .long (lI v3_1)), (5, .int (iI v5_1))] [] := by
    intro n1
    induction n1 using Nat.strongRecOn with
    | ind n1 ih1 =>
      intro v3_1 v5_1 h
      have h := hs1 n1 v3_1 v5_1 h
      refine x_iload (q := 7) C dX9_areLetters_5 3 rfl rfl ?_
      refine x_iload_n (q := 8) (i := 0) C dX9_areLetters_7 rfl 0 rfl rfl ?_
      obtain ⟨o2, h⟩ := h
      obtain ⟨o3, h⟩ := h
      refine x_icmp_ge (q := 11) (tgt := 37) C dX9_areLetters_8 rfl ⟨o2, o3⟩ rfl (fun c4 => ?_) (fun c4 => ?_)
      · have h := h.1 c4
        refine x_iconst (q := 38) (z := 1) C dX9_areLetters_37 rfl rfl ?_
        exact x_zret C dX9_areLetters_38 (by decide) ⟨rfl, h⟩
      · have h := h.2 c4
        refine x_lload_n (q := 12) (i := 3) C dX9_areLetters_11 rfl 2 rfl rfl ?_
        refine x_ldc2 (q := 15) (z := 100) C dX9_areLetters_12 t2_54 rfl rfl ?_
        obtain ⟨o5, h⟩ := h
        refine x_lrem (q := 16) C dX9_areLetters_15 ⟨o5, by decide⟩ rfl ?_
        refine x_ldc2 (q := 19) (z := 25) C dX9_areLetters_16 t2_55 rfl rfl ?_
        refine x_lcmp (q := 20) C dX9_areLetters_19  rfl ?_
        obtain ⟨o6, h⟩ := h
        refine x_if_le (q := 23) (tgt := 25) C dX9_areLetters_20 rfl o6 rfl (fun c7 => ?_) (fun c7 => ?_)
        · have h := h.1 c7
          refine x_lload_n (q := 26) (i := 3) C dX9_areLetters_25 rfl 2 rfl rfl ?_
          refine x_ldc2 (q := 29) (z := 100) C dX9_areLetters_26 t2_54 rfl rfl ?_
          refine x_ldiv (q := 30) C dX9_areLetters_29 ⟨o5, by decide⟩ rfl ?_
          refine x_lstore_n (q := 31) (i := 3) (lv' := [(0, .int (iI a0)), (1, .long (lI a1)), (3, .long (lI (v3_1 / 100))), (5, .int (iI v5_1))]) C dX9_areLetters_30 rfl (Nat.le_of_ble_eq_true rfl) [1, 2, 0, 3] rfl rfl ?_
          refine x_iinc (q := 34) (z' := v5_1 + 1) (lv' := [(0, .int (iI a0)), (1, .long (lI a1)), (3, .long (lI (v3_1 / 100))), (5, .int (iI (v5_1 + 1)))]) C dX9_areLetters_31 3 rfl rfl (Nat.le_of_ble_eq_true rfl) [1, 2, 3, 0] rfl rfl ?_
          refine x_goto (tgt := 5) C dX9_areLetters_34 rfl ?_
          obtain ⟨n8, hl9, h⟩ := h
          refine x_sub [0, 1, 2, 3] rfl ?_
          exact ih1 n8 hl9 _ _ h
        · have h := h.2 c7
          refine x_iconst (q := 24) (z := 0) C dX9_areLetters_23 rfl rfl ?_
          exact x_zret C dX9_areLetters_24 (by decide) ⟨rfl, h⟩
  exact L1 n01 a1 0 h01
abbrev rm_X9_word : Room := { frames := 2, cells := 0, slots := 0, locals := 52 }
def vc_X9_word (σ : GS) (a0 : Int) (a1 : Int) (Post : Int → GS → Prop) : Prop :=
  (rg a0) ∧
  ((a0 < 0 →
    (Post (-2) σ)) ∧
  (¬ a0 < 0 →
    (((5 : Int) < a0 →
      (Post (-2) σ)) ∧
    (¬ (5 : Int) < a0 →
      (vc_X9_hasFigures σ a1 (2 * a0) (fun (z4 : Int) =>
        (rg z4) ∧
      ((z4 = 0 →
        (Post (-2) σ)) ∧
      (¬ z4 = 0 →
        (vc_X9_areLetters σ a0 a1 (fun (z7 : Int) =>
          (rg z7) ∧
        ((¬ z7 = 0 →
          (vc_X8_length σ  (fun (z10 : Int) =>
            vc_X8_take σ a0 a1 (fun (σ11 : GS) =>
            Post z10 σ11)))) ∧
        (z7 = 0 →
          (Post (-2) σ)))))))))))))
set_option maxHeartbeats 4000000 in
set_option maxRecDepth 10000 in
theorem m_X9_word (l : Launch) {ad : Nat → Nat} {D : va_G} {cI cZ cG : ClassId} (hI : Ij ad) {σ : GS} {a0 : Int} {a1 : Int} {Post : Int → GS → Prop} (h : vc_X9_word σ a0 a1 Post) : Met l yX9_word (wX yX9_word cX9_word 5 (some .int)) rm_X9_word (va_Pc [.ref (ad 0), .int (iI a0), .long (lI a1)] (Wd ad D cI cZ cG σ)) (QI ad D cI cZ cG Post) 0 0 (Aw ad) := by
  refine met_V (own := RX9) hI (by decide +kernel) rfl (Nat.le_of_ble_eq_true rfl) ?_
  intro p e s m args below meth c C
  unfold vc_X9_word at h
  show V p l e rm_X9_word s m args below meth c ad D cI cZ cG (Aw ad) 5 0 0 (MQ below (QI ad D cI cZ cG Post) args s 0 0 (Aw ad)) σ 0 [(0, .ref (ad 0)), (1, .int (iI a0)), (2, .long (lI a1))] []
  refine x_iload_n (q := 1) (i := 1) C dX9_word_0 rfl 1 rfl rfl ?_
  obtain ⟨o1, h⟩ := h
  refine x_if_lt (q := 4) (tgt := 27) C dX9_word_1 rfl o1 rfl (fun c2 => ?_) (fun c2 => ?_)
  · have h := h.1 c2
    refine x_bipush (q := 29) (z := (-2)) C dX9_word_27 rfl rfl ?_
    exact x_iret C dX9_word_29 h
  · have h := h.2 c2
    refine x_iload_n (q := 5) (i := 1) C dX9_word_4 rfl 1 rfl rfl ?_
    refine x_iconst (q := 6) (z := 5) C dX9_word_5 rfl rfl ?_
    refine x_icmp_gt (q := 9) (tgt := 27) C dX9_word_6 rfl ⟨o1, by decide⟩ rfl (fun c3 => ?_) (fun c3 => ?_)
    · have h := h.1 c3
      refine x_bipush (q := 29) (z := (-2)) C dX9_word_27 rfl rfl ?_
      exact x_iret C dX9_word_29 h
    · have h := h.2 c3
      refine x_lload_n (q := 10) (i := 2) C dX9_word_9 rfl 2 rfl rfl ?_
      refine x_iconst (q := 11) (z := 2) C dX9_word_10 rfl rfl ?_
      refine x_iload_n (q := 12) (i := 1) C dX9_word_11 rfl 1 rfl rfl ?_
      refine x_imul (q := 13) C dX9_word_12  rfl ?_
      refine x_staI (q := 16) C ck_RX9_113 t2_45 (m_X9_hasFigures l hI h) ⟨⟨rfl, rfl⟩, ⟨Nat.le_of_ble_eq_true rfl, Nat.le_of_ble_eq_true rfl⟩, ⟨Nat.zero_le _, Nat.zero_le _⟩⟩ dX9_word_13 rfl rfl (Nat.le_of_ble_eq_true rfl) rfl (fun z4 σ4 h => ?_)
      rw [h.1]
      have h := h.2
      obtain ⟨o5, h⟩ := h
      refine x_if_eq (q := 19) (tgt := 27) C dX9_word_16 rfl o5 rfl (fun c6 => ?_) (fun c6 => ?_)
      · have h := h.1 c6
        refine x_bipush (q := 29) (z := (-2)) C dX9_word_27 rfl rfl ?_
        exact x_iret C dX9_word_29 h
      · have h := h.2 c6
        refine x_iload_n (q := 20) (i := 1) C dX9_word_19 rfl 1 rfl rfl ?_
        refine x_lload_n (q := 21) (i := 2) C dX9_word_20 rfl 2 rfl rfl ?_
        refine x_staI (q := 24) C ck_RX9_117 t2_52 (m_X9_areLetters l hI h) ⟨⟨rfl, rfl⟩, ⟨Nat.le_of_ble_eq_true rfl, Nat.le_of_ble_eq_true rfl⟩, ⟨Nat.zero_le _, Nat.zero_le _⟩⟩ dX9_word_21 rfl rfl (Nat.le_of_ble_eq_true rfl) rfl (fun z7 σ7 h => ?_)
        rw [h.1]
        have h := h.2
        obtain ⟨o8, h⟩ := h
        refine x_if_ne (q := 27) (tgt := 30) C dX9_word_24 rfl o8 rfl (fun c9 => ?_) (fun c9 => ?_)
        · have h := h.1 c9
          refine x_aload_n (q := 31) (i := 0) C dX9_word_30 rfl 0 rfl rfl ?_
          refine x_getR (q := 34) (c0 := 21) C (Nat.le_of_ble_eq_true rfl) ly_0 fk_RX9_54 rfl dX9_word_31 rfl ?_
          refine x_virI (q := 37) C (Nat.le_of_ble_eq_true rfl) ly_21 rfl ck_RX9_121 vk_X8_length (m_X8_length l hI h) ⟨⟨rfl, rfl⟩, ⟨Nat.le_of_ble_eq_true rfl, Nat.le_of_ble_eq_true rfl⟩, ⟨Nat.zero_le _, Nat.zero_le _⟩⟩ dX9_word_34 rfl rfl (Nat.le_of_ble_eq_true rfl) rfl (fun z10 σ10 h => ?_)
          rw [h.1]
          have h := h.2
          refine x_istore (q := 39) (i := 4) (lv' := [(0, .ref (ad 0)), (1, .int (iI a0)), (2, .long (lI a1)), (4, .int (iI z10))]) C dX9_word_37 (Nat.le_of_ble_eq_true rfl) [1, 2, 3, 0] rfl rfl ?_
          refine x_aload_n (q := 40) (i := 0) C dX9_word_39 rfl 0 rfl rfl ?_
          refine x_getR (q := 43) (c0 := 21) C (Nat.le_of_ble_eq_true rfl) ly_0 fk_RX9_54 rfl dX9_word_40 rfl ?_
          refine x_iload_n (q := 44) (i := 1) C dX9_word_43 rfl 1 rfl rfl ?_
          refine x_lload_n (q := 45) (i := 2) C dX9_word_44 rfl 2 rfl rfl ?_
          refine x_virV (q := 48) C (Nat.le_of_ble_eq_true rfl) ly_21 rfl ck_RX9_122 vk_X8_take (m_X8_take l hI h) ⟨⟨rfl, rfl⟩, ⟨Nat.le_of_ble_eq_true rfl, Nat.le_of_ble_eq_true rfl⟩, ⟨Nat.zero_le _, Nat.zero_le _⟩⟩ dX9_word_45 rfl rfl (Nat.le_of_ble_eq_true rfl) rfl (fun σ11 h => ?_)
          refine x_iload (q := 50) C dX9_word_48 3 rfl rfl ?_
          exact x_iret C dX9_word_50 h
        · have h := h.2 c9
          refine x_bipush (q := 29) (z := (-2)) C dX9_word_27 rfl rfl ?_
          exact x_iret C dX9_word_29 h
abbrev rm_X9_blade : Room := { frames := 4, cells := 0, slots := 0, locals := 93 }
def vc_X9_blade (σ : GS) (a0 : Int) (a1 : Int) (Post : Int → GS → Prop) : Prop :=
  vc_X1_has σ a0 (fun (z1 : Int) =>
    (rg z1) ∧
  ((¬ z1 = 0 →
    ((rg a1) ∧
    ((a1 < 0 ∨ 5 < a1 →
      (Post (-2) σ)) ∧
    (a1 = 0 →
      (vc_X1_kindOf σ a0 (fun (z5 : Int) =>
          Post z5 σ))) ∧
    (a1 = 1 →
      (vc_X2_sumAhead σ 6 a0 (fun (z6 : Int) =>
          Post z6 σ))) ∧
    (a1 = 2 →
      (vc_X1_widthOf σ a0 (fun (z7 : Int) =>
          Post z7 σ))) ∧
    (a1 = 3 →
      (vc_X6_layAll σ 6 (a1 - 3) (fun (σ8 : GS) =>
          vc_X6_cellsSeen σ8 a0 (fun (z9 : Int) =>
          Post z9 σ8)))) ∧
    (a1 = 4 →
      (vc_X6_layAll σ 6 (a1 - 3) (fun (σ10 : GS) =>
          vc_X6_cellsSeen σ10 a0 (fun (z11 : Int) =>
          Post z11 σ10)))) ∧
    (a1 = 5 →
      (vc_X1_hasGap σ a0 (fun (z12 : Int) =>
          (rg z12) ∧
        ((z12 = 0 →
          (Post (-9) σ)) ∧
        (¬ z12 = 0 →
          (vc_X2_at σ 6 a0 (fun (z15 : Int) =>
            Post z15 σ)))))))))) ∧
  (z1 = 0 →
    (Post (-1) σ))))
set_option maxHeartbeats 4000000 in
set_option maxRecDepth 10000 in
theorem m_X9_blade (l : Launch) {ad : Nat → Nat} {D : va_G} {cI cZ cG : ClassId} (hI : Ij ad) {σ : GS} {a0 : Int} {a1 : Int} {Post : Int → GS → Prop} (h : vc_X9_blade σ a0 a1 Post) : Met l yX9_blade (wX yX9_blade cX9_blade 3 (some .int)) rm_X9_blade (va_Pc [.ref (ad 0), .int (iI a0), .int (iI a1)] (Wd ad D cI cZ cG σ)) (QI ad D cI cZ cG Post) 0 0 (Aw ad) := by
  refine met_V (own := RX9) hI (by decide +kernel) rfl (Nat.le_of_ble_eq_true rfl) ?_
  intro p e s m args below meth c C
  unfold vc_X9_blade at h
  show V p l e rm_X9_blade s m args below meth c ad D cI cZ cG (Aw ad) 3 0 0 (MQ below (QI ad D cI cZ cG Post) args s 0 0 (Aw ad)) σ 0 [(0, .ref (ad 0)), (1, .int (iI a0)), (2, .int (iI a1))] []
  refine x_aload_n (q := 1) (i := 0) C dX9_blade_0 rfl 0 rfl rfl ?_
  refine x_getR (q := 4) (c0 := 3) C (Nat.le_of_ble_eq_true rfl) ly_0 fk_RX9_19 rfl dX9_blade_1 rfl ?_
  refine x_iload_n (q := 5) (i := 1) C dX9_blade_4 rfl 1 rfl rfl ?_
  refine x_virI (q := 8) C (Nat.le_of_ble_eq_true rfl) ly_3 rfl ck_RX9_125 vk_X1_has (m_X1_has l hI h) ⟨⟨rfl, rfl⟩, ⟨Nat.le_of_ble_eq_true rfl, Nat.le_of_ble_eq_true rfl⟩, ⟨Nat.zero_le _, Nat.zero_le _⟩⟩ dX9_blade_5 rfl rfl (Nat.le_of_ble_eq_true rfl) rfl (fun z1 σ1 h => ?_)
  rw [h.1]
  have h := h.2
  obtain ⟨o2, h⟩ := h
  refine x_if_ne (q := 11) (tgt := 13) C dX9_blade_8 rfl o2 rfl (fun c3 => ?_) (fun c3 => ?_)
  · have h := h.1 c3
    refine x_iload_n (q := 14) (i := 2) C dX9_blade_13 rfl 2 rfl rfl ?_
    obtain ⟨o4, h⟩ := h
    refine x_table C dX9_blade_14 o4 127 rfl [52, 61, 70, 79, 79, 102] rfl rfl (fun c0 => ?_) (fun i t ht ha => ?_)
    · have h := h.1 c0
      refine x_bipush (q := 129) (z := (-2)) C dX9_blade_127 rfl rfl ?_
      exact x_iret C dX9_blade_129 h
    · rcases i with _ | _ | _ | _ | _ | _ | i
      · cases ht
        have h := h.2.1 (by omega)
        refine x_aload_n (q := 53) (i := 0) C dX9_blade_52 rfl 0 rfl rfl ?_
        refine x_getR (q := 56) (c0 := 3) C (Nat.le_of_ble_eq_true rfl) ly_0 fk_RX9_19 rfl dX9_blade_53 rfl ?_
        refine x_iload_n (q := 57) (i := 1) C dX9_blade_56 rfl 1 rfl rfl ?_
        refine x_virI (q := 60) C (Nat.le_of_ble_eq_true rfl) ly_3 rfl ck_RX9_128 vk_X1_kindOf (m_X1_kindOf l hI h) ⟨⟨rfl, rfl⟩, ⟨Nat.le_of_ble_eq_true rfl, Nat.le_of_ble_eq_true rfl⟩, ⟨Nat.zero_le _, Nat.zero_le _⟩⟩ dX9_blade_57 rfl rfl (Nat.le_of_ble_eq_true rfl) rfl (fun z5 σ5 h => ?_)
        rw [h.1]
        have h := h.2
        exact x_iret C dX9_blade_60 h
      · cases ht
        have h := h.2.2.1 (by omega)
        refine x_aload_n (q := 62) (i := 0) C dX9_blade_61 rfl 0 rfl rfl ?_
        refine x_getR (q := 65) (c0 := 6) C (Nat.le_of_ble_eq_true rfl) ly_0 fk_RX9_28 rfl dX9_blade_62 rfl ?_
        refine x_iload_n (q := 66) (i := 1) C dX9_blade_65 rfl 1 rfl rfl ?_
        refine x_virI (q := 69) C (Nat.le_of_ble_eq_true rfl) ly_6 rfl ck_RX9_132 vk_X2_sumAhead (m_X2_sumAhead l hI h) ⟨⟨rfl, rfl⟩, ⟨Nat.le_of_ble_eq_true rfl, Nat.le_of_ble_eq_true rfl⟩, ⟨Nat.zero_le _, Nat.zero_le _⟩⟩ dX9_blade_66 rfl rfl (Nat.le_of_ble_eq_true rfl) rfl (fun z6 σ6 h => ?_)
        rw [h.1]
        have h := h.2
        exact x_iret C dX9_blade_69 h
      · cases ht
        have h := h.2.2.2.1 (by omega)
        refine x_aload_n (q := 71) (i := 0) C dX9_blade_70 rfl 0 rfl rfl ?_
        refine x_getR (q := 74) (c0 := 3) C (Nat.le_of_ble_eq_true rfl) ly_0 fk_RX9_19 rfl dX9_blade_71 rfl ?_
        refine x_iload_n (q := 75) (i := 1) C dX9_blade_74 rfl 1 rfl rfl ?_
        refine x_virI (q := 78) C (Nat.le_of_ble_eq_true rfl) ly_3 rfl ck_RX9_135 vk_X1_widthOf (m_X1_widthOf l hI h) ⟨⟨rfl, rfl⟩, ⟨Nat.le_of_ble_eq_true rfl, Nat.le_of_ble_eq_true rfl⟩, ⟨Nat.zero_le _, Nat.zero_le _⟩⟩ dX9_blade_75 rfl rfl (Nat.le_of_ble_eq_true rfl) rfl (fun z7 σ7 h => ?_)
        rw [h.1]
        have h := h.2
        exact x_iret C dX9_blade_78 h
      · cases ht
        have h := h.2.2.2.2.1 (by omega)
        refine x_aload_n (q := 80) (i := 0) C dX9_blade_79 rfl 0 rfl rfl ?_
        refine x_getR (q := 83) (c0 := 10) C (Nat.le_of_ble_eq_true rfl) ly_0 fk_RX9_38 rfl dX9_blade_80 rfl ?_
        refine x_aload_n (q := 84) (i := 0) C dX9_blade_83 rfl 0 rfl rfl ?_
        refine x_getR (q := 87) (c0 := 6) C (Nat.le_of_ble_eq_true rfl) ly_0 fk_RX9_28 rfl dX9_blade_84 rfl ?_
        refine x_iload_n (q := 88) (i := 2) C dX9_blade_87 rfl 2 rfl rfl ?_
        refine x_iconst (q := 89) (z := 3) C dX9_blade_88 rfl rfl ?_
        refine x_isub (q := 90) C dX9_blade_89  rfl ?_
        refine x_virV (q := 93) C (Nat.le_of_ble_eq_true rfl) ly_10 rfl ck_RX9_138 vk_X6_layAll (m_X6_layAll l hI h) ⟨⟨rfl, rfl⟩, ⟨Nat.le_of_ble_eq_true rfl, Nat.le_of_ble_eq_true rfl⟩, ⟨Nat.zero_le _, Nat.zero_le _⟩⟩ dX9_blade_90 rfl rfl (Nat.le_of_ble_eq_true rfl) rfl (fun σ8 h => ?_)
        refine x_aload_n (q := 94) (i := 0) C dX9_blade_93 rfl 0 rfl rfl ?_
        refine x_getR (q := 97) (c0 := 10) C (Nat.le_of_ble_eq_true rfl) ly_0 fk_RX9_38 rfl dX9_blade_94 rfl ?_
        refine x_iload_n (q := 98) (i := 1) C dX9_blade_97 rfl 1 rfl rfl ?_
        refine x_virI (q := 101) C (Nat.le_of_ble_eq_true rfl) ly_10 rfl ck_RX9_142 vk_X6_cellsSeen (m_X6_cellsSeen l hI h) ⟨⟨rfl, rfl⟩, ⟨Nat.le_of_ble_eq_true rfl, Nat.le_of_ble_eq_true rfl⟩, ⟨Nat.zero_le _, Nat.zero_le _⟩⟩ dX9_blade_98 rfl rfl (Nat.le_of_ble_eq_true rfl) rfl (fun z9 σ9 h => ?_)
        rw [h.1]
        have h := h.2
        exact x_iret C dX9_blade_101 h
      · cases ht
        have h := h.2.2.2.2.2.1 (by omega)
        refine x_aload_n (q := 80) (i := 0) C dX9_blade_79 rfl 0 rfl rfl ?_
        refine x_getR (q := 83) (c0 := 10) C (Nat.le_of_ble_eq_true rfl) ly_0 fk_RX9_38 rfl dX9_blade_80 rfl ?_
        refine x_aload_n (q := 84) (i := 0) C dX9_blade_83 rfl 0 rfl rfl ?_
        refine x_getR (q := 87) (c0 := 6) C (Nat.le_of_ble_eq_true rfl) ly_0 fk_RX9_28 rfl dX9_blade_84 rfl ?_
        refine x_iload_n (q := 88) (i := 2) C dX9_blade_87 rfl 2 rfl rfl ?_
        refine x_iconst (q := 89) (z := 3) C dX9_blade_88 rfl rfl ?_
        refine x_isub (q := 90) C dX9_blade_89  rfl ?_
        refine x_virV (q := 93) C (Nat.le_of_ble_eq_true rfl) ly_10 rfl ck_RX9_138 vk_X6_layAll (m_X6_layAll l hI h) ⟨⟨rfl, rfl⟩, ⟨Nat.le_of_ble_eq_true rfl, Nat.le_of_ble_eq_true rfl⟩, ⟨Nat.zero_le _, Nat.zero_le _⟩⟩ dX9_blade_90 rfl rfl (Nat.le_of_ble_eq_true rfl) rfl (fun σ10 h => ?_)
        refine x_aload_n (q := 94) (i := 0) C dX9_blade_93 rfl 0 rfl rfl ?_
        refine x_getR (q := 97) (c0 := 10) C (Nat.le_of_ble_eq_true rfl) ly_0 fk_RX9_38 rfl dX9_blade_94 rfl ?_
        refine x_iload_n (q := 98) (i := 1) C dX9_blade_97 rfl 1 rfl rfl ?_
        refine x_virI (q := 101) C (Nat.le_of_ble_eq_true rfl) ly_10 rfl ck_RX9_142 vk_X6_cellsSeen (m_X6_cellsSeen l hI h) ⟨⟨rfl, rfl⟩, ⟨Nat.le_of_ble_eq_true rfl, Nat.le_of_ble_eq_true rfl⟩, ⟨Nat.zero_le _, Nat.zero_le _⟩⟩ dX9_blade_98 rfl rfl (Nat.le_of_ble_eq_true rfl) rfl (fun z11 σ11 h => ?_)
        rw [h.1]
        have h := h.2
        exact x_iret C dX9_blade_101 h
      · cases ht
        have h := h.2.2.2.2.2.2 (by omega)
        refine x_aload_n (q := 103) (i := 0) C dX9_blade_102 rfl 0 rfl rfl ?_
        refine x_getR (q := 106) (c0 := 3) C (Nat.le_of_ble_eq_true rfl) ly_0 fk_RX9_19 rfl dX9_blade_103 rfl ?_
        refine x_iload_n (q := 107) (i := 1) C dX9_blade_106 rfl 1 rfl rfl ?_
        refine x_virI (q := 110) C (Nat.le_of_ble_eq_true rfl) ly_3 rfl ck_RX9_145 vk_X1_hasGap (m_X1_hasGap l hI h) ⟨⟨rfl, rfl⟩, ⟨Nat.le_of_ble_eq_true rfl, Nat.le_of_ble_eq_true rfl⟩, ⟨Nat.zero_le _, Nat.zero_le _⟩⟩ dX9_blade_107 rfl rfl (Nat.le_of_ble_eq_true rfl) rfl (fun z12 σ12 h => ?_)
        rw [h.1]
        have h := h.2
        obtain ⟨o13, h⟩ := h
        refine x_if_eq (q := 113) (tgt := 124) C dX9_blade_110 rfl o13 rfl (fun c14 => ?_) (fun c14 => ?_)
        · have h := h.1 c14
          refine x_bipush (q := 126) (z := (-9)) C dX9_blade_124 rfl rfl ?_
          exact x_iret C dX9_blade_126 h
        · have h := h.2 c14
          refine x_aload_n (q := 114) (i := 0) C dX9_blade_113 rfl 0 rfl rfl ?_
          refine x_getR (q := 117) (c0 := 6) C (Nat.le_of_ble_eq_true rfl) ly_0 fk_RX9_28 rfl dX9_blade_114 rfl ?_
          refine x_iload_n (q := 118) (i := 1) C dX9_blade_117 rfl 1 rfl rfl ?_
          refine x_virI (q := 121) C (Nat.le_of_ble_eq_true rfl) ly_6 rfl ck_RX9_148 vk_X2_at (m_X2_at l hI h) ⟨⟨rfl, rfl⟩, ⟨Nat.le_of_ble_eq_true rfl, Nat.le_of_ble_eq_true rfl⟩, ⟨Nat.zero_le _, Nat.zero_le _⟩⟩ dX9_blade_118 rfl rfl (Nat.le_of_ble_eq_true rfl) rfl (fun z15 σ15 h => ?_)
          rw [h.1]
          have h := h.2
          refine x_goto (tgt := 126) C dX9_blade_121 rfl ?_
          exact x_iret C dX9_blade_126 h
      · simp at ht
  · have h := h.2 c3
    refine x_iconst (q := 12) (z := (-1)) C dX9_blade_11 rfl rfl ?_
    exact x_iret C dX9_blade_12 h
