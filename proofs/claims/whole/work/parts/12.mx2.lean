abbrev rm_X9_isBit : Room := { frames := 0, cells := 0, slots := 0, locals := 0 }
def vc_X9_isBit (σ : GS) (a0 : Int) (Post : Int → Prop) : Prop :=
  (rg a0) ∧
  ((a0 = 0 →
    (Post 1)) ∧
  (¬ a0 = 0 →
    ((¬ a0 = 1 →
      (Post 0)) ∧
    (a0 = 1 →
      (Post 1)))))
set_option maxHeartbeats 4000000 in
set_option maxRecDepth 10000 in
theorem m_X9_isBit (l : Launch) {ad : Nat → Nat} {D : va_G} {cI cZ cG : ClassId} (hI : Ij ad) {σ : GS} {a0 : Int} {Post : Int → Prop} (h : vc_X9_isBit σ a0 Post) : Met l yX9_isBit (wX yX9_isBit cX9_isBit 1 (some .boolean)) rm_X9_isBit (va_Pc [.int (iI a0)] (Wd ad D cI cZ cG σ)) (QI ad D cI cZ cG (fun z u => u = σ ∧ Post z)) 0 0 (Aw ad) := by
  refine met_V (own := RX9) hI (by decide +kernel) rfl (Nat.le_of_ble_eq_true rfl) ?_
  intro p e s m args below meth c C
  unfold vc_X9_isBit at h
  show V p l e rm_X9_isBit s m args below meth c ad D cI cZ cG (Aw ad) 1 0 0 (MQ below (QI ad D cI cZ cG (fun z u => u = σ ∧ Post z)) args s 0 0 (Aw ad)) σ 0 [(0, .int (iI a0))] []
  refine x_iload_n (q := 1) (i := 0) C dX9_isBit_0 rfl 0 rfl rfl ?_
  obtain ⟨o1, h⟩ := h
  refine x_if_eq (q := 4) (tgt := 9) C dX9_isBit_1 rfl o1 rfl (fun c2 => ?_) (fun c2 => ?_)
  · have h := h.1 c2
    refine x_iconst (q := 10) (z := 1) C dX9_isBit_9 rfl rfl ?_
    refine x_goto (tgt := 14) C dX9_isBit_10 rfl ?_
    exact x_zret C dX9_isBit_14 (by decide) ⟨rfl, h⟩
  · have h := h.2 c2
    refine x_iload_n (q := 5) (i := 0) C dX9_isBit_4 rfl 0 rfl rfl ?_
    refine x_iconst (q := 6) (z := 1) C dX9_isBit_5 rfl rfl ?_
    refine x_icmp_ne (q := 9) (tgt := 13) C dX9_isBit_6 rfl ⟨o1, by decide⟩ rfl (fun c3 => ?_) (fun c3 => ?_)
    · have h := h.1 c3
      refine x_iconst (q := 14) (z := 0) C dX9_isBit_13 rfl rfl ?_
      exact x_zret C dX9_isBit_14 (by decide) ⟨rfl, h⟩
    · have h := h.2 c3
      refine x_iconst (q := 10) (z := 1) C dX9_isBit_9 rfl rfl ?_
      refine x_goto (tgt := 14) C dX9_isBit_10 rfl ?_
      exact x_zret C dX9_isBit_14 (by decide) ⟨rfl, h⟩
abbrev rm_X9_look : Room := { frames := 4, cells := 0, slots := 0, locals := 93 }
def vc_X9_look (σ : GS) (a0 : Int) (a1 : Int) (a2 : Int) (Post : Int → GS → Prop) : Prop :=
  vc_X9_isPlace σ a0 (fun (z1 : Int) =>
    (rg z1) ∧
  ((¬ z1 = 0 →
    (vc_X9_isBit σ a1 (fun (z4 : Int) =>
      (rg z4) ∧
    ((z4 = 0 →
      (Post (-2) σ)) ∧
    (¬ z4 = 0 →
      (vc_X9_isBit σ a2 (fun (z7 : Int) =>
        (rg z7) ∧
      ((¬ z7 = 0 →
        (vc_X6_layAll σ 6 a1 (fun (σ10 : GS) =>
          (rg a2) ∧
        ((¬ a2 = 0 →
          (vc_X6_bladeAt σ10 a0 (fun (z13 : Int) =>
            Post z13 σ10))) ∧
        (a2 = 0 →
          (vc_X6_letterAt σ10 a0 (fun (z14 : Int) =>
            Post z14 σ10))))))) ∧
      (z7 = 0 →
        (Post (-2) σ)))))))))) ∧
  (z1 = 0 →
    (Post (-1) σ))))
set_option maxHeartbeats 4000000 in
set_option maxRecDepth 10000 in
theorem m_X9_look (l : Launch) {ad : Nat → Nat} {D : va_G} {cI cZ cG : ClassId} (hI : Ij ad) {σ : GS} {a0 : Int} {a1 : Int} {a2 : Int} {Post : Int → GS → Prop} (h : vc_X9_look σ a0 a1 a2 Post) : Met l yX9_look (wX yX9_look cX9_look 4 (some .int)) rm_X9_look (va_Pc [.ref (ad 0), .int (iI a0), .int (iI a1), .int (iI a2)] (Wd ad D cI cZ cG σ)) (QI ad D cI cZ cG Post) 0 0 (Aw ad) := by
  refine met_V (own := RX9) hI (by decide +kernel) rfl (Nat.le_of_ble_eq_true rfl) ?_
  intro p e s m args below meth c C
  unfold vc_X9_look at h
  show V p l e rm_X9_look s m args below meth c ad D cI cZ cG (Aw ad) 4 0 0 (MQ below (QI ad D cI cZ cG Post) args s 0 0 (Aw ad)) σ 0 [(0, .ref (ad 0)), (1, .int (iI a0)), (2, .int (iI a1)), (3, .int (iI a2))] []
  refine x_iload_n (q := 1) (i := 1) C dX9_look_0 rfl 1 rfl rfl ?_
  refine x_staI (q := 4) C ck_RX9_151 t2_113 (m_X9_isPlace l hI h) ⟨⟨rfl, rfl⟩, ⟨Nat.le_of_ble_eq_true rfl, Nat.le_of_ble_eq_true rfl⟩, ⟨Nat.zero_le _, Nat.zero_le _⟩⟩ dX9_look_1 rfl rfl (Nat.le_of_ble_eq_true rfl) rfl (fun z1 σ1 h => ?_)
  rw [h.1]
  have h := h.2
  obtain ⟨o2, h⟩ := h
  refine x_if_ne (q := 7) (tgt := 9) C dX9_look_4 rfl o2 rfl (fun c3 => ?_) (fun c3 => ?_)
  · have h := h.1 c3
    refine x_iload_n (q := 10) (i := 2) C dX9_look_9 rfl 2 rfl rfl ?_
    refine x_staI (q := 13) C ck_RX9_154 t2_155 (m_X9_isBit l hI h) ⟨⟨rfl, rfl⟩, ⟨Nat.le_of_ble_eq_true rfl, Nat.le_of_ble_eq_true rfl⟩, ⟨Nat.zero_le _, Nat.zero_le _⟩⟩ dX9_look_10 rfl rfl (Nat.le_of_ble_eq_true rfl) rfl (fun z4 σ4 h => ?_)
    rw [h.1]
    have h := h.2
    obtain ⟨o5, h⟩ := h
    refine x_if_eq (q := 16) (tgt := 23) C dX9_look_13 rfl o5 rfl (fun c6 => ?_) (fun c6 => ?_)
    · have h := h.1 c6
      refine x_bipush (q := 25) (z := (-2)) C dX9_look_23 rfl rfl ?_
      exact x_iret C dX9_look_25 h
    · have h := h.2 c6
      refine x_iload_n (q := 17) (i := 3) C dX9_look_16 rfl 3 rfl rfl ?_
      refine x_staI (q := 20) C ck_RX9_154 t2_155 (m_X9_isBit l hI h) ⟨⟨rfl, rfl⟩, ⟨Nat.le_of_ble_eq_true rfl, Nat.le_of_ble_eq_true rfl⟩, ⟨Nat.zero_le _, Nat.zero_le _⟩⟩ dX9_look_17 rfl rfl (Nat.le_of_ble_eq_true rfl) rfl (fun z7 σ7 h => ?_)
      rw [h.1]
      have h := h.2
      obtain ⟨o8, h⟩ := h
      refine x_if_ne (q := 23) (tgt := 26) C dX9_look_20 rfl o8 rfl (fun c9 => ?_) (fun c9 => ?_)
      · have h := h.1 c9
        refine x_aload_n (q := 27) (i := 0) C dX9_look_26 rfl 0 rfl rfl ?_
        refine x_getR (q := 30) (c0 := 10) C (Nat.le_of_ble_eq_true rfl) ly_0 fk_RX9_38 rfl dX9_look_27 rfl ?_
        refine x_aload_n (q := 31) (i := 0) C dX9_look_30 rfl 0 rfl rfl ?_
        refine x_getR (q := 34) (c0 := 6) C (Nat.le_of_ble_eq_true rfl) ly_0 fk_RX9_28 rfl dX9_look_31 rfl ?_
        refine x_iload_n (q := 35) (i := 2) C dX9_look_34 rfl 2 rfl rfl ?_
        refine x_virV (q := 38) C (Nat.le_of_ble_eq_true rfl) ly_10 rfl ck_RX9_138 vk_X6_layAll (m_X6_layAll l hI h) ⟨⟨rfl, rfl⟩, ⟨Nat.le_of_ble_eq_true rfl, Nat.le_of_ble_eq_true rfl⟩, ⟨Nat.zero_le _, Nat.zero_le _⟩⟩ dX9_look_35 rfl rfl (Nat.le_of_ble_eq_true rfl) rfl (fun σ10 h => ?_)
        refine x_iload_n (q := 39) (i := 3) C dX9_look_38 rfl 3 rfl rfl ?_
        obtain ⟨o11, h⟩ := h
        refine x_if_ne (q := 42) (tgt := 53) C dX9_look_39 rfl o11 rfl (fun c12 => ?_) (fun c12 => ?_)
        · have h := h.1 c12
          refine x_aload_n (q := 54) (i := 0) C dX9_look_53 rfl 0 rfl rfl ?_
          refine x_getR (q := 57) (c0 := 10) C (Nat.le_of_ble_eq_true rfl) ly_0 fk_RX9_38 rfl dX9_look_54 rfl ?_
          refine x_iload_n (q := 58) (i := 1) C dX9_look_57 rfl 1 rfl rfl ?_
          refine x_virI (q := 61) C (Nat.le_of_ble_eq_true rfl) ly_10 rfl ck_RX9_160 vk_X6_bladeAt (m_X6_bladeAt l hI h) ⟨⟨rfl, rfl⟩, ⟨Nat.le_of_ble_eq_true rfl, Nat.le_of_ble_eq_true rfl⟩, ⟨Nat.zero_le _, Nat.zero_le _⟩⟩ dX9_look_58 rfl rfl (Nat.le_of_ble_eq_true rfl) rfl (fun z13 σ13 h => ?_)
          rw [h.1]
          have h := h.2
          exact x_iret C dX9_look_61 h
        · have h := h.2 c12
          refine x_aload_n (q := 43) (i := 0) C dX9_look_42 rfl 0 rfl rfl ?_
          refine x_getR (q := 46) (c0 := 10) C (Nat.le_of_ble_eq_true rfl) ly_0 fk_RX9_38 rfl dX9_look_43 rfl ?_
          refine x_iload_n (q := 47) (i := 1) C dX9_look_46 rfl 1 rfl rfl ?_
          refine x_virI (q := 50) C (Nat.le_of_ble_eq_true rfl) ly_10 rfl ck_RX9_157 vk_X6_letterAt (m_X6_letterAt l hI h) ⟨⟨rfl, rfl⟩, ⟨Nat.le_of_ble_eq_true rfl, Nat.le_of_ble_eq_true rfl⟩, ⟨Nat.zero_le _, Nat.zero_le _⟩⟩ dX9_look_47 rfl rfl (Nat.le_of_ble_eq_true rfl) rfl (fun z14 σ14 h => ?_)
          rw [h.1]
          have h := h.2
          refine x_goto (tgt := 61) C dX9_look_50 rfl ?_
          exact x_iret C dX9_look_61 h
      · have h := h.2 c9
        refine x_bipush (q := 25) (z := (-2)) C dX9_look_23 rfl rfl ?_
        exact x_iret C dX9_look_25 h
  · have h := h.2 c3
    refine x_iconst (q := 8) (z := (-1)) C dX9_look_7 rfl rfl ?_
    exact x_iret C dX9_look_8 h
abbrev rm_X9_spread : Room := { frames := 3, cells := 0, slots := 0, locals := 68 }
def vc_X9_spread (σ : GS) (a0 : Int) (Post : Int → GS → Prop) : Prop :=
  vc_X1_hasGap σ a0 (fun (z1 : Int) =>
    (rg z1) ∧
  ((¬ z1 = 0 →
    (vc_X2_canWiden σ 6 a0 (fun (z4 : Int) =>
      (rg z4) ∧
    ((¬ z4 = 0 →
      (vc_X0_remember σ 6 (fun (σ7 : GS) =>
        vc_X2_widen σ7 6 a0 (fun (z8 : Int) (σ8 : GS) =>
        vc_X2_at σ8 6 a0 (fun (z9 : Int) =>
        Post z9 σ8))))) ∧
    (z4 = 0 →
      (Post (-3) σ)))))) ∧
  (z1 = 0 →
    (Post (-1) σ))))
set_option maxHeartbeats 4000000 in
set_option maxRecDepth 10000 in
theorem m_X9_spread (l : Launch) {ad : Nat → Nat} {D : va_G} {cI cZ cG : ClassId} (hI : Ij ad) {σ : GS} {a0 : Int} {Post : Int → GS → Prop} (h : vc_X9_spread σ a0 Post) : Met l yX9_spread (wX yX9_spread cX9_spread 2 (some .int)) rm_X9_spread (va_Pc [.ref (ad 0), .int (iI a0)] (Wd ad D cI cZ cG σ)) (QI ad D cI cZ cG Post) 0 0 (Aw ad) := by
  refine met_V (own := RX9) hI (by decide +kernel) rfl (Nat.le_of_ble_eq_true rfl) ?_
  intro p e s m args below meth c C
  unfold vc_X9_spread at h
  show V p l e rm_X9_spread s m args below meth c ad D cI cZ cG (Aw ad) 2 0 0 (MQ below (QI ad D cI cZ cG Post) args s 0 0 (Aw ad)) σ 0 [(0, .ref (ad 0)), (1, .int (iI a0))] []
  refine x_aload_n (q := 1) (i := 0) C dX9_spread_0 rfl 0 rfl rfl ?_
  refine x_getR (q := 4) (c0 := 3) C (Nat.le_of_ble_eq_true rfl) ly_0 fk_RX9_19 rfl dX9_spread_1 rfl ?_
  refine x_iload_n (q := 5) (i := 1) C dX9_spread_4 rfl 1 rfl rfl ?_
  refine x_virI (q := 8) C (Nat.le_of_ble_eq_true rfl) ly_3 rfl ck_RX9_145 vk_X1_hasGap (m_X1_hasGap l hI h) ⟨⟨rfl, rfl⟩, ⟨Nat.le_of_ble_eq_true rfl, Nat.le_of_ble_eq_true rfl⟩, ⟨Nat.zero_le _, Nat.zero_le _⟩⟩ dX9_spread_5 rfl rfl (Nat.le_of_ble_eq_true rfl) rfl (fun z1 σ1 h => ?_)
  rw [h.1]
  have h := h.2
  obtain ⟨o2, h⟩ := h
  refine x_if_ne (q := 11) (tgt := 13) C dX9_spread_8 rfl o2 rfl (fun c3 => ?_) (fun c3 => ?_)
  · have h := h.1 c3
    refine x_aload_n (q := 14) (i := 0) C dX9_spread_13 rfl 0 rfl rfl ?_
    refine x_getR (q := 17) (c0 := 6) C (Nat.le_of_ble_eq_true rfl) ly_0 fk_RX9_28 rfl dX9_spread_14 rfl ?_
    refine x_iload_n (q := 18) (i := 1) C dX9_spread_17 rfl 1 rfl rfl ?_
    refine x_virI (q := 21) C (Nat.le_of_ble_eq_true rfl) ly_6 rfl ck_RX9_163 vk_X2_canWiden (m_X2_canWiden l hI h) ⟨⟨rfl, rfl⟩, ⟨Nat.le_of_ble_eq_true rfl, Nat.le_of_ble_eq_true rfl⟩, ⟨Nat.zero_le _, Nat.zero_le _⟩⟩ dX9_spread_18 rfl rfl (Nat.le_of_ble_eq_true rfl) rfl (fun z4 σ4 h => ?_)
    rw [h.1]
    have h := h.2
    obtain ⟨o5, h⟩ := h
    refine x_if_ne (q := 24) (tgt := 27) C dX9_spread_21 rfl o5 rfl (fun c6 => ?_) (fun c6 => ?_)
    · have h := h.1 c6
      refine x_aload_n (q := 28) (i := 0) C dX9_spread_27 rfl 0 rfl rfl ?_
      refine x_getR (q := 31) (c0 := 23) C (Nat.le_of_ble_eq_true rfl) ly_0 fk_RX9_61 rfl dX9_spread_28 rfl ?_
      refine x_aload_n (q := 32) (i := 0) C dX9_spread_31 rfl 0 rfl rfl ?_
      refine x_getR (q := 35) (c0 := 6) C (Nat.le_of_ble_eq_true rfl) ly_0 fk_RX9_28 rfl dX9_spread_32 rfl ?_
      refine x_virV (q := 38) C (Nat.le_of_ble_eq_true rfl) ly_23 rfl ck_RX9_166 vk_X0_remember (m_X0_remember l hI h) ⟨⟨rfl, rfl⟩, ⟨Nat.le_of_ble_eq_true rfl, Nat.le_of_ble_eq_true rfl⟩, ⟨Nat.zero_le _, Nat.zero_le _⟩⟩ dX9_spread_35 rfl rfl (Nat.le_of_ble_eq_true rfl) rfl (fun σ7 h => ?_)
      refine x_aload_n (q := 39) (i := 0) C dX9_spread_38 rfl 0 rfl rfl ?_
      refine x_getR (q := 42) (c0 := 6) C (Nat.le_of_ble_eq_true rfl) ly_0 fk_RX9_28 rfl dX9_spread_39 rfl ?_
      refine x_iload_n (q := 43) (i := 1) C dX9_spread_42 rfl 1 rfl rfl ?_
      refine x_virI (q := 46) C (Nat.le_of_ble_eq_true rfl) ly_6 rfl ck_RX9_170 vk_X2_widen (m_X2_widen l hI h) ⟨⟨rfl, rfl⟩, ⟨Nat.le_of_ble_eq_true rfl, Nat.le_of_ble_eq_true rfl⟩, ⟨Nat.zero_le _, Nat.zero_le _⟩⟩ dX9_spread_43 rfl rfl (Nat.le_of_ble_eq_true rfl) rfl (fun z8 σ8 h => ?_)
      refine x_pop (q := 47) C dX9_spread_46 rfl rfl ?_
      refine x_aload_n (q := 48) (i := 0) C dX9_spread_47 rfl 0 rfl rfl ?_
      refine x_getR (q := 51) (c0 := 6) C (Nat.le_of_ble_eq_true rfl) ly_0 fk_RX9_28 rfl dX9_spread_48 rfl ?_
      refine x_iload_n (q := 52) (i := 1) C dX9_spread_51 rfl 1 rfl rfl ?_
      refine x_virI (q := 55) C (Nat.le_of_ble_eq_true rfl) ly_6 rfl ck_RX9_148 vk_X2_at (m_X2_at l hI h) ⟨⟨rfl, rfl⟩, ⟨Nat.le_of_ble_eq_true rfl, Nat.le_of_ble_eq_true rfl⟩, ⟨Nat.zero_le _, Nat.zero_le _⟩⟩ dX9_spread_52 rfl rfl (Nat.le_of_ble_eq_true rfl) rfl (fun z9 σ9 h => ?_)
      rw [h.1]
      have h := h.2
      exact x_iret C dX9_spread_55 h
    · have h := h.2 c6
      refine x_bipush (q := 26) (z := (-3)) C dX9_spread_24 rfl rfl ?_
      exact x_iret C dX9_spread_26 h
  · have h := h.2 c3
    refine x_iconst (q := 12) (z := (-1)) C dX9_spread_11 rfl rfl ?_
    exact x_iret C dX9_spread_12 h
abbrev rm_X9_fold : Room := { frames := 3, cells := 0, slots := 0, locals := 68 }
def vc_X9_fold (σ : GS) (a0 : Int) (Post : Int → GS → Prop) : Prop :=
  vc_X1_hasGap σ a0 (fun (z1 : Int) =>
    (rg z1) ∧
  ((¬ z1 = 0 →
    (vc_X2_canNarrow σ 6 a0 (fun (z4 : Int) =>
      (rg z4) ∧
    ((¬ z4 = 0 →
      (vc_X0_remember σ 6 (fun (σ7 : GS) =>
        vc_X2_narrow σ7 6 a0 (fun (z8 : Int) (σ8 : GS) =>
        vc_X2_at σ8 6 a0 (fun (z9 : Int) =>
        Post z9 σ8))))) ∧
    (z4 = 0 →
      (Post (-3) σ)))))) ∧
  (z1 = 0 →
    (Post (-1) σ))))
set_option maxHeartbeats 4000000 in
set_option maxRecDepth 10000 in
theorem m_X9_fold (l : Launch) {ad : Nat → Nat} {D : va_G} {cI cZ cG : ClassId} (hI : Ij ad) {σ : GS} {a0 : Int} {Post : Int → GS → Prop} (h : vc_X9_fold σ a0 Post) : Met l yX9_fold (wX yX9_fold cX9_fold 2 (some .int)) rm_X9_fold (va_Pc [.ref (ad 0), .int (iI a0)] (Wd ad D cI cZ cG σ)) (QI ad D cI cZ cG Post) 0 0 (Aw ad) := by
  refine met_V (own := RX9) hI (by decide +kernel) rfl (Nat.le_of_ble_eq_true rfl) ?_
  intro p e s m args below meth c C
  unfold vc_X9_fold at h
  show V p l e rm_X9_fold s m args below meth c ad D cI cZ cG (Aw ad) 2 0 0 (MQ below (QI ad D cI cZ cG Post) args s 0 0 (Aw ad)) σ 0 [(0, .ref (ad 0)), (1, .int (iI a0))] []
  refine x_aload_n (q := 1) (i := 0) C dX9_fold_0 rfl 0 rfl rfl ?_
  refine x_getR (q := 4) (c0 := 3) C (Nat.le_of_ble_eq_true rfl) ly_0 fk_RX9_19 rfl dX9_fold_1 rfl ?_
  refine x_iload_n (q := 5) (i := 1) C dX9_fold_4 rfl 1 rfl rfl ?_
  refine x_virI (q := 8) C (Nat.le_of_ble_eq_true rfl) ly_3 rfl ck_RX9_145 vk_X1_hasGap (m_X1_hasGap l hI h) ⟨⟨rfl, rfl⟩, ⟨Nat.le_of_ble_eq_true rfl, Nat.le_of_ble_eq_true rfl⟩, ⟨Nat.zero_le _, Nat.zero_le _⟩⟩ dX9_fold_5 rfl rfl (Nat.le_of_ble_eq_true rfl) rfl (fun z1 σ1 h => ?_)
  rw [h.1]
  have h := h.2
  obtain ⟨o2, h⟩ := h
  refine x_if_ne (q := 11) (tgt := 13) C dX9_fold_8 rfl o2 rfl (fun c3 => ?_) (fun c3 => ?_)
  · have h := h.1 c3
    refine x_aload_n (q := 14) (i := 0) C dX9_fold_13 rfl 0 rfl rfl ?_
    refine x_getR (q := 17) (c0 := 6) C (Nat.le_of_ble_eq_true rfl) ly_0 fk_RX9_28 rfl dX9_fold_14 rfl ?_
    refine x_iload_n (q := 18) (i := 1) C dX9_fold_17 rfl 1 rfl rfl ?_
    refine x_virI (q := 21) C (Nat.le_of_ble_eq_true rfl) ly_6 rfl ck_RX9_173 vk_X2_canNarrow (m_X2_canNarrow l hI h) ⟨⟨rfl, rfl⟩, ⟨Nat.le_of_ble_eq_true rfl, Nat.le_of_ble_eq_true rfl⟩, ⟨Nat.zero_le _, Nat.zero_le _⟩⟩ dX9_fold_18 rfl rfl (Nat.le_of_ble_eq_true rfl) rfl (fun z4 σ4 h => ?_)
    rw [h.1]
    have h := h.2
    obtain ⟨o5, h⟩ := h
    refine x_if_ne (q := 24) (tgt := 27) C dX9_fold_21 rfl o5 rfl (fun c6 => ?_) (fun c6 => ?_)
    · have h := h.1 c6
      refine x_aload_n (q := 28) (i := 0) C dX9_fold_27 rfl 0 rfl rfl ?_
      refine x_getR (q := 31) (c0 := 23) C (Nat.le_of_ble_eq_true rfl) ly_0 fk_RX9_61 rfl dX9_fold_28 rfl ?_
      refine x_aload_n (q := 32) (i := 0) C dX9_fold_31 rfl 0 rfl rfl ?_
      refine x_getR (q := 35) (c0 := 6) C (Nat.le_of_ble_eq_true rfl) ly_0 fk_RX9_28 rfl dX9_fold_32 rfl ?_
      refine x_virV (q := 38) C (Nat.le_of_ble_eq_true rfl) ly_23 rfl ck_RX9_166 vk_X0_remember (m_X0_remember l hI h) ⟨⟨rfl, rfl⟩, ⟨Nat.le_of_ble_eq_true rfl, Nat.le_of_ble_eq_true rfl⟩, ⟨Nat.zero_le _, Nat.zero_le _⟩⟩ dX9_fold_35 rfl rfl (Nat.le_of_ble_eq_true rfl) rfl (fun σ7 h => ?_)
      refine x_aload_n (q := 39) (i := 0) C dX9_fold_38 rfl 0 rfl rfl ?_
      refine x_getR (q := 42) (c0 := 6) C (Nat.le_of_ble_eq_true rfl) ly_0 fk_RX9_28 rfl dX9_fold_39 rfl ?_
      refine x_iload_n (q := 43) (i := 1) C dX9_fold_42 rfl 1 rfl rfl ?_
      refine x_virI (q := 46) C (Nat.le_of_ble_eq_true rfl) ly_6 rfl ck_RX9_176 vk_X2_narrow (m_X2_narrow l hI h) ⟨⟨rfl, rfl⟩, ⟨Nat.le_of_ble_eq_true rfl, Nat.le_of_ble_eq_true rfl⟩, ⟨Nat.zero_le _, Nat.zero_le _⟩⟩ dX9_fold_43 rfl rfl (Nat.le_of_ble_eq_true rfl) rfl (fun z8 σ8 h => ?_)
      refine x_pop (q := 47) C dX9_fold_46 rfl rfl ?_
      refine x_aload_n (q := 48) (i := 0) C dX9_fold_47 rfl 0 rfl rfl ?_
      refine x_getR (q := 51) (c0 := 6) C (Nat.le_of_ble_eq_true rfl) ly_0 fk_RX9_28 rfl dX9_fold_48 rfl ?_
      refine x_iload_n (q := 52) (i := 1) C dX9_fold_51 rfl 1 rfl rfl ?_
      refine x_virI (q := 55) C (Nat.le_of_ble_eq_true rfl) ly_6 rfl ck_RX9_148 vk_X2_at (m_X2_at l hI h) ⟨⟨rfl, rfl⟩, ⟨Nat.le_of_ble_eq_true rfl, Nat.le_of_ble_eq_true rfl⟩, ⟨Nat.zero_le _, Nat.zero_le _⟩⟩ dX9_fold_52 rfl rfl (Nat.le_of_ble_eq_true rfl) rfl (fun z9 σ9 h => ?_)
      rw [h.1]
      have h := h.2
      exact x_iret C dX9_fold_55 h
    · have h := h.2 c6
      refine x_bipush (q := 26) (z := (-3)) C dX9_fold_24 rfl rfl ?_
      exact x_iret C dX9_fold_26 h
  · have h := h.2 c3
    refine x_iconst (q := 12) (z := (-1)) C dX9_fold_11 rfl rfl ?_
    exact x_iret C dX9_fold_12 h
abbrev rm_X9_fling : Room := { frames := 4, cells := 0, slots := 0, locals := 85 }
def vc_X9_fling (σ : GS)  (Post : Int → GS → Prop) : Prop :=
  vc_X0_remember σ 6 (fun (σ1 : GS) =>
    vc_X2_widenAll σ1 6 (fun (z2 : Int) (σ2 : GS) =>
    Post z2 σ2))
set_option maxHeartbeats 4000000 in
set_option maxRecDepth 10000 in
theorem m_X9_fling (l : Launch) {ad : Nat → Nat} {D : va_G} {cI cZ cG : ClassId} (hI : Ij ad) {σ : GS}  {Post : Int → GS → Prop} (h : vc_X9_fling σ  Post) : Met l yX9_fling (wX yX9_fling cX9_fling 1 (some .int)) rm_X9_fling (va_Pc [.ref (ad 0)] (Wd ad D cI cZ cG σ)) (QI ad D cI cZ cG Post) 0 0 (Aw ad) := by
  refine met_V (own := RX9) hI (by decide +kernel) rfl (Nat.le_of_ble_eq_true rfl) ?_
  intro p e s m args below meth c C
  unfold vc_X9_fling at h
  show V p l e rm_X9_fling s m args below meth c ad D cI cZ cG (Aw ad) 1 0 0 (MQ below (QI ad D cI cZ cG Post) args s 0 0 (Aw ad)) σ 0 [(0, .ref (ad 0))] []
  refine x_aload_n (q := 1) (i := 0) C dX9_fling_0 rfl 0 rfl rfl ?_
  refine x_getR (q := 4) (c0 := 23) C (Nat.le_of_ble_eq_true rfl) ly_0 fk_RX9_61 rfl dX9_fling_1 rfl ?_
  refine x_aload_n (q := 5) (i := 0) C dX9_fling_4 rfl 0 rfl rfl ?_
  refine x_getR (q := 8) (c0 := 6) C (Nat.le_of_ble_eq_true rfl) ly_0 fk_RX9_28 rfl dX9_fling_5 rfl ?_
  refine x_virV (q := 11) C (Nat.le_of_ble_eq_true rfl) ly_23 rfl ck_RX9_166 vk_X0_remember (m_X0_remember l hI h) ⟨⟨rfl, rfl⟩, ⟨Nat.le_of_ble_eq_true rfl, Nat.le_of_ble_eq_true rfl⟩, ⟨Nat.zero_le _, Nat.zero_le _⟩⟩ dX9_fling_8 rfl rfl (Nat.le_of_ble_eq_true rfl) rfl (fun σ1 h => ?_)
  refine x_aload_n (q := 12) (i := 0) C dX9_fling_11 rfl 0 rfl rfl ?_
  refine x_getR (q := 15) (c0 := 6) C (Nat.le_of_ble_eq_true rfl) ly_0 fk_RX9_28 rfl dX9_fling_12 rfl ?_
  refine x_virI (q := 18) C (Nat.le_of_ble_eq_true rfl) ly_6 rfl ck_RX9_179 vk_X2_widenAll (m_X2_widenAll l hI h) ⟨⟨rfl, rfl⟩, ⟨Nat.le_of_ble_eq_true rfl, Nat.le_of_ble_eq_true rfl⟩, ⟨Nat.zero_le _, Nat.zero_le _⟩⟩ dX9_fling_15 rfl rfl (Nat.le_of_ble_eq_true rfl) rfl (fun z2 σ2 h => ?_)
  exact x_iret C dX9_fling_18 h
abbrev rm_X9_snap : Room := { frames := 3, cells := 0, slots := 0, locals := 68 }
def vc_X9_snap (σ : GS)  (Post : Int → GS → Prop) : Prop :=
  vc_X0_remember σ 6 (fun (σ1 : GS) =>
    vc_X2_sum σ1 6 (fun (z2 : Int) =>
    vc_X2_clear σ1 6 (fun (σ3 : GS) =>
    Post z2 σ3)))
set_option maxHeartbeats 4000000 in
set_option maxRecDepth 10000 in
theorem m_X9_snap (l : Launch) {ad : Nat → Nat} {D : va_G} {cI cZ cG : ClassId} (hI : Ij ad) {σ : GS}  {Post : Int → GS → Prop} (h : vc_X9_snap σ  Post) : Met l yX9_snap (wX yX9_snap cX9_snap 2 (some .int)) rm_X9_snap (va_Pc [.ref (ad 0)] (Wd ad D cI cZ cG σ)) (QI ad D cI cZ cG Post) 0 0 (Aw ad) := by
  refine met_V (own := RX9) hI (by decide +kernel) rfl (Nat.le_of_ble_eq_true rfl) ?_
  intro p e s m args below meth c C
  unfold vc_X9_snap at h
  show V p l e rm_X9_snap s m args below meth c ad D cI cZ cG (Aw ad) 2 0 0 (MQ below (QI ad D cI cZ cG Post) args s 0 0 (Aw ad)) σ 0 [(0, .ref (ad 0))] []
  refine x_aload_n (q := 1) (i := 0) C dX9_snap_0 rfl 0 rfl rfl ?_
  refine x_getR (q := 4) (c0 := 23) C (Nat.le_of_ble_eq_true rfl) ly_0 fk_RX9_61 rfl dX9_snap_1 rfl ?_
  refine x_aload_n (q := 5) (i := 0) C dX9_snap_4 rfl 0 rfl rfl ?_
  refine x_getR (q := 8) (c0 := 6) C (Nat.le_of_ble_eq_true rfl) ly_0 fk_RX9_28 rfl dX9_snap_5 rfl ?_
  refine x_virV (q := 11) C (Nat.le_of_ble_eq_true rfl) ly_23 rfl ck_RX9_166 vk_X0_remember (m_X0_remember l hI h) ⟨⟨rfl, rfl⟩, ⟨Nat.le_of_ble_eq_true rfl, Nat.le_of_ble_eq_true rfl⟩, ⟨Nat.zero_le _, Nat.zero_le _⟩⟩ dX9_snap_8 rfl rfl (Nat.le_of_ble_eq_true rfl) rfl (fun σ1 h => ?_)
  refine x_aload_n (q := 12) (i := 0) C dX9_snap_11 rfl 0 rfl rfl ?_
  refine x_getR (q := 15) (c0 := 6) C (Nat.le_of_ble_eq_true rfl) ly_0 fk_RX9_28 rfl dX9_snap_12 rfl ?_
  refine x_virI (q := 18) C (Nat.le_of_ble_eq_true rfl) ly_6 rfl ck_RX9_182 vk_X2_sum (m_X2_sum l hI h) ⟨⟨rfl, rfl⟩, ⟨Nat.le_of_ble_eq_true rfl, Nat.le_of_ble_eq_true rfl⟩, ⟨Nat.zero_le _, Nat.zero_le _⟩⟩ dX9_snap_15 rfl rfl (Nat.le_of_ble_eq_true rfl) rfl (fun z2 σ2 h => ?_)
  rw [h.1]
  have h := h.2
  refine x_istore_n (q := 19) (i := 1) (lv' := [(0, .ref (ad 0)), (1, .int (iI z2))]) C dX9_snap_18 rfl (Nat.le_of_ble_eq_true rfl) [1, 0] rfl rfl ?_
  refine x_aload_n (q := 20) (i := 0) C dX9_snap_19 rfl 0 rfl rfl ?_
  refine x_getR (q := 23) (c0 := 6) C (Nat.le_of_ble_eq_true rfl) ly_0 fk_RX9_28 rfl dX9_snap_20 rfl ?_
  refine x_virV (q := 26) C (Nat.le_of_ble_eq_true rfl) ly_6 rfl ck_RX9_107 vk_X2_clear (m_X2_clear l hI h) ⟨⟨rfl, rfl⟩, ⟨Nat.le_of_ble_eq_true rfl, Nat.le_of_ble_eq_true rfl⟩, ⟨Nat.zero_le _, Nat.zero_le _⟩⟩ dX9_snap_23 rfl rfl (Nat.le_of_ble_eq_true rfl) rfl (fun σ3 h => ?_)
  refine x_iload_n (q := 27) (i := 1) C dX9_snap_26 rfl 1 rfl rfl ?_
  exact x_iret C dX9_snap_27 h
abbrev rm_X9_undo : Room := { frames := 3, cells := 0, slots := 0, locals := 68 }
def vc_X9_undo (σ : GS)  (Post : Int → GS → Prop) : Prop :=
  vc_X0_takeBack σ 6 (fun (z1 : Int) (σ1 : GS) =>
    (rg z1) ∧
  ((z1 = 0 →
    (Post (-3) σ1)) ∧
  (¬ z1 = 0 →
    (vc_X0_size σ1  (fun (z4 : Int) =>
      Post z4 σ1)))))
set_option maxHeartbeats 4000000 in
set_option maxRecDepth 10000 in
theorem m_X9_undo (l : Launch) {ad : Nat → Nat} {D : va_G} {cI cZ cG : ClassId} (hI : Ij ad) {σ : GS}  {Post : Int → GS → Prop} (h : vc_X9_undo σ  Post) : Met l yX9_undo (wX yX9_undo cX9_undo 1 (some .int)) rm_X9_undo (va_Pc [.ref (ad 0)] (Wd ad D cI cZ cG σ)) (QI ad D cI cZ cG Post) 0 0 (Aw ad) := by
  refine met_V (own := RX9) hI (by decide +kernel) rfl (Nat.le_of_ble_eq_true rfl) ?_
  intro p e s m args below meth c C
  unfold vc_X9_undo at h
  show V p l e rm_X9_undo s m args below meth c ad D cI cZ cG (Aw ad) 1 0 0 (MQ below (QI ad D cI cZ cG Post) args s 0 0 (Aw ad)) σ 0 [(0, .ref (ad 0))] []
  refine x_aload_n (q := 1) (i := 0) C dX9_undo_0 rfl 0 rfl rfl ?_
  refine x_getR (q := 4) (c0 := 23) C (Nat.le_of_ble_eq_true rfl) ly_0 fk_RX9_61 rfl dX9_undo_1 rfl ?_
  refine x_aload_n (q := 5) (i := 0) C dX9_undo_4 rfl 0 rfl rfl ?_
  refine x_getR (q := 8) (c0 := 6) C (Nat.le_of_ble_eq_true rfl) ly_0 fk_RX9_28 rfl dX9_undo_5 rfl ?_
  refine x_virI (q := 11) C (Nat.le_of_ble_eq_true rfl) ly_23 rfl ck_RX9_185 vk_X0_takeBack (m_X0_takeBack l hI h) ⟨⟨rfl, rfl⟩, ⟨Nat.le_of_ble_eq_true rfl, Nat.le_of_ble_eq_true rfl⟩, ⟨Nat.zero_le _, Nat.zero_le _⟩⟩ dX9_undo_8 rfl rfl (Nat.le_of_ble_eq_true rfl) rfl (fun z1 σ1 h => ?_)
  obtain ⟨o2, h⟩ := h
  refine x_if_eq (q := 14) (tgt := 24) C dX9_undo_11 rfl o2 rfl (fun c3 => ?_) (fun c3 => ?_)
  · have h := h.1 c3
    refine x_bipush (q := 26) (z := (-3)) C dX9_undo_24 rfl rfl ?_
    exact x_iret C dX9_undo_26 h
  · have h := h.2 c3
    refine x_aload_n (q := 15) (i := 0) C dX9_undo_14 rfl 0 rfl rfl ?_
    refine x_getR (q := 18) (c0 := 23) C (Nat.le_of_ble_eq_true rfl) ly_0 fk_RX9_61 rfl dX9_undo_15 rfl ?_
    refine x_virI (q := 21) C (Nat.le_of_ble_eq_true rfl) ly_23 rfl ck_RX9_189 vk_X0_size (m_X0_size l hI h) ⟨⟨rfl, rfl⟩, ⟨Nat.le_of_ble_eq_true rfl, Nat.le_of_ble_eq_true rfl⟩, ⟨Nat.zero_le _, Nat.zero_le _⟩⟩ dX9_undo_18 rfl rfl (Nat.le_of_ble_eq_true rfl) rfl (fun z4 σ4 h => ?_)
    rw [h.1]
    have h := h.2
    refine x_goto (tgt := 26) C dX9_undo_21 rfl ?_
    exact x_iret C dX9_undo_26 h
abbrev rm_X9_reads : Room := { frames := 4, cells := 0, slots := 0, locals := 93 }
def vc_X9_reads (σ : GS) (a0 : Int) (Post : Int → GS → Prop) : Prop :=
  vc_X9_isBit σ a0 (fun (z1 : Int) =>
    (rg z1) ∧
  ((¬ z1 = 0 →
    (vc_X6_layAll σ 6 a0 (fun (σ4 : GS) =>
      vc_X8_firstRead σ4  (fun (z5 : Int) =>
      Post z5 σ4)))) ∧
  (z1 = 0 →
    (Post (-2) σ))))
set_option maxHeartbeats 4000000 in
set_option maxRecDepth 10000 in
theorem m_X9_reads (l : Launch) {ad : Nat → Nat} {D : va_G} {cI cZ cG : ClassId} (hI : Ij ad) {σ : GS} {a0 : Int} {Post : Int → GS → Prop} (h : vc_X9_reads σ a0 Post) : Met l yX9_reads (wX yX9_reads cX9_reads 2 (some .int)) rm_X9_reads (va_Pc [.ref (ad 0), .int (iI a0)] (Wd ad D cI cZ cG σ)) (QI ad D cI cZ cG Post) 0 0 (Aw ad) := by
  refine met_V (own := RX9) hI (by decide +kernel) rfl (Nat.le_of_ble_eq_true rfl) ?_
  intro p e s m args below meth c C
  unfold vc_X9_reads at h
  show V p l e rm_X9_reads s m args below meth c ad D cI cZ cG (Aw ad) 2 0 0 (MQ below (QI ad D cI cZ cG Post) args s 0 0 (Aw ad)) σ 0 [(0, .ref (ad 0)), (1, .int (iI a0))] []
  refine x_iload_n (q := 1) (i := 1) C dX9_reads_0 rfl 1 rfl rfl ?_
  refine x_staI (q := 4) C ck_RX9_154 t2_155 (m_X9_isBit l hI h) ⟨⟨rfl, rfl⟩, ⟨Nat.le_of_ble_eq_true rfl, Nat.le_of_ble_eq_true rfl⟩, ⟨Nat.zero_le _, Nat.zero_le _⟩⟩ dX9_reads_1 rfl rfl (Nat.le_of_ble_eq_true rfl) rfl (fun z1 σ1 h => ?_)
  rw [h.1]
  have h := h.2
  obtain ⟨o2, h⟩ := h
  refine x_if_ne (q := 7) (tgt := 10) C dX9_reads_4 rfl o2 rfl (fun c3 => ?_) (fun c3 => ?_)
  · have h := h.1 c3
    refine x_aload_n (q := 11) (i := 0) C dX9_reads_10 rfl 0 rfl rfl ?_
    refine x_getR (q := 14) (c0 := 10) C (Nat.le_of_ble_eq_true rfl) ly_0 fk_RX9_38 rfl dX9_reads_11 rfl ?_
    refine x_aload_n (q := 15) (i := 0) C dX9_reads_14 rfl 0 rfl rfl ?_
    refine x_getR (q := 18) (c0 := 6) C (Nat.le_of_ble_eq_true rfl) ly_0 fk_RX9_28 rfl dX9_reads_15 rfl ?_
    refine x_iload_n (q := 19) (i := 1) C dX9_reads_18 rfl 1 rfl rfl ?_
    refine x_virV (q := 22) C (Nat.le_of_ble_eq_true rfl) ly_10 rfl ck_RX9_138 vk_X6_layAll (m_X6_layAll l hI h) ⟨⟨rfl, rfl⟩, ⟨Nat.le_of_ble_eq_true rfl, Nat.le_of_ble_eq_true rfl⟩, ⟨Nat.zero_le _, Nat.zero_le _⟩⟩ dX9_reads_19 rfl rfl (Nat.le_of_ble_eq_true rfl) rfl (fun σ4 h => ?_)
    refine x_aload_n (q := 23) (i := 0) C dX9_reads_22 rfl 0 rfl rfl ?_
    refine x_getR (q := 26) (c0 := 21) C (Nat.le_of_ble_eq_true rfl) ly_0 fk_RX9_54 rfl dX9_reads_23 rfl ?_
    refine x_aload_n (q := 27) (i := 0) C dX9_reads_26 rfl 0 rfl rfl ?_
    refine x_getR (q := 30) (c0 := 10) C (Nat.le_of_ble_eq_true rfl) ly_0 fk_RX9_38 rfl dX9_reads_27 rfl ?_
    refine x_virI (q := 33) C (Nat.le_of_ble_eq_true rfl) ly_21 rfl ck_RX9_190 vk_X8_firstRead (m_X8_firstRead l hI h) ⟨⟨rfl, rfl⟩, ⟨Nat.le_of_ble_eq_true rfl, Nat.le_of_ble_eq_true rfl⟩, ⟨Nat.zero_le _, Nat.zero_le _⟩⟩ dX9_reads_30 rfl rfl (Nat.le_of_ble_eq_true rfl) rfl (fun z5 σ5 h => ?_)
    rw [h.1]
    have h := h.2
    exact x_iret C dX9_reads_33 h
  · have h := h.2 c3
    refine x_bipush (q := 9) (z := (-2)) C dX9_reads_7 rfl rfl ?_
    exact x_iret C dX9_reads_9 h
abbrev rm_X9_open : Room := { frames := 5, cells := 0, slots := 0, locals := 114 }
def vc_X9_open (σ : GS) (a0 : Int) (a1 : Int) (Post : Int → GS → Prop) : Prop :=
  vc_X9_isBit σ a0 (fun (z1 : Int) =>
    (rg z1) ∧
  ((z1 = 0 →
    (Post (-2) σ)) ∧
  (¬ z1 = 0 →
    (vc_X9_isBit σ a1 (fun (z4 : Int) =>
      (rg z4) ∧
    ((¬ z4 = 0 →
      (vc_X7_begin σ a0 (fun (σ7 : GS) =>
        ∃ I8 : Nat → Int → Int → Int → Int → GS → Prop, (∃ n : Nat, I8 n (-9) (-9) 1 0 σ7) ∧ ∀ (n8 : Nat) (v3_8 : Int) (v4_8 : Int) (v5_8 : Int) (v6_8 : Int) (σ8 : GS), I8 n8 v3_8 v4_8 v5_8 v6_8 σ8 →
      ((rg v5_8) ∧
          ((v5_8 = 0 →
            ((rg a1) ∧
            ((¬ a1 = 0 →
              (Post v4_8 σ8)) ∧
            (a1 = 0 →
              (Post v3_8 σ8))))) ∧
          (¬ v5_8 = 0 →
            ((rg v6_8) ∧
            (((3125 : Int) ≤ v6_8 →
              ((rg a1) ∧
              ((¬ a1 = 0 →
                (Post v4_8 σ8)) ∧
              (a1 = 0 →
                (Post v3_8 σ8))))) ∧
            (¬ (3125 : Int) ≤ v6_8 →
              (vc_X2_stepsFrom σ8 8 6 (fun (z17 : Int) =>
                (rg v3_8) ∧
              ((v3_8 = (-9) →
                (vc_X8_isRead σ8  (fun (z20 : Int) =>
                  (rg z20) ∧
                ((z20 = 0 →
                  (vc_X7_step σ8  (fun (z23 : Int) (σ23 : GS) =>
                    ∃ n' : Nat, n' < n8 ∧ I8 n' v3_8 v4_8 z23 (v6_8 + 1) σ23))) ∧
                (¬ z20 = 0 →
                  (vc_X2_figures σ8 8 (fun (z26 : Int) =>
                    vc_X7_step σ8  (fun (z27 : Int) (σ27 : GS) =>
                    ∃ n' : Nat, n' < n8 ∧ I8 n' z17 z26 z27 (v6_8 + 1) σ27)))))))) ∧
              (¬ v3_8 = (-9) →
                ((rg z17) ∧
                ((v3_8 ≤ z17 →
                  (vc_X7_step σ8  (fun (z32 : Int) (σ32 : GS) =>
                    ∃ n' : Nat, n' < n8 ∧ I8 n' v3_8 v4_8 z32 (v6_8 + 1) σ32))) ∧
                (¬ v3_8 ≤ z17 →
                  (vc_X8_isRead σ8  (fun (z35 : Int) =>
                    (rg z35) ∧
                  ((z35 = 0 →
                    (vc_X7_step σ8  (fun (z38 : Int) (σ38 : GS) =>
                      ∃ n' : Nat, n' < n8 ∧ I8 n' v3_8 v4_8 z38 (v6_8 + 1) σ38))) ∧
                  (¬ z35 = 0 →
                    (vc_X2_figures σ8 8 (fun (z41 : Int) =>
                      vc_X7_step σ8  (fun (z42 : Int) (σ42 : GS) =>
                      ∃ n' : Nat, n' < n8 ∧ I8 n' z17 z41 z42 (v6_8 + 1) σ42))))))))))))))))))))))) ∧
    (z4 = 0 →
      (Post (-2) σ))))))))
set_option maxHeartbeats 4000000 in
set_option maxRecDepth 10000 in
theorem m_X9_open (l : Launch) {ad : Nat → Nat} {D : va_G} {cI cZ cG : ClassId} (hI : Ij ad) {σ : GS} {a0 : Int} {a1 : Int} {Post : Int → GS → Prop} (h : vc_X9_open σ a0 a1 Post) : Met l yX9_open (wX yX9_open cX9_open 8 (some .int)) rm_X9_open (va_Pc [.ref (ad 0), .int (iI a0), .int (iI a1)] (Wd ad D cI cZ cG σ)) (QI ad D cI cZ cG Post) 0 0 (Aw ad) := by
  refine met_V (own := RX9) hI (by decide +kernel) rfl (Nat.le_of_ble_eq_true rfl) ?_
  intro p e s m args below meth c C
  unfold vc_X9_open at h
  show V p l e rm_X9_open s m args below meth c ad D cI cZ cG (Aw ad) 8 0 0 (MQ below (QI ad D cI cZ cG Post) args s 0 0 (Aw ad)) σ 0 [(0, .ref (ad 0)), (1, .int (iI a0)), (2, .int (iI a1))] []
  refine x_iload_n (q := 1) (i := 1) C dX9_open_0 rfl 1 rfl rfl ?_
  refine x_staI (q := 4) C ck_RX9_154 t2_155 (m_X9_isBit l hI h) ⟨⟨rfl, rfl⟩, ⟨Nat.le_of_ble_eq_true rfl, Nat.le_of_ble_eq_true rfl⟩, ⟨Nat.zero_le _, Nat.zero_le _⟩⟩ dX9_open_1 rfl rfl (Nat.le_of_ble_eq_true rfl) rfl (fun z1 σ1 h => ?_)
  rw [h.1]
  have h := h.2
  obtain ⟨o2, h⟩ := h
  refine x_if_eq (q := 7) (tgt := 14) C dX9_open_4 rfl o2 rfl (fun c3 => ?_) (fun c3 => ?_)
  · have h := h.1 c3
    refine x_bipush (q := 16) (z := (-2)) C dX9_open_14 rfl rfl ?_
    exact x_iret C dX9_open_16 h
  · have h := h.2 c3
    refine x_iload_n (q := 8) (i := 2) C dX9_open_7 rfl 2 rfl rfl ?_
    refine x_staI (q := 11) C ck_RX9_154 t2_155 (m_X9_isBit l hI h) ⟨⟨rfl, rfl⟩, ⟨Nat.le_of_ble_eq_true rfl, Nat.le_of_ble_eq_true rfl⟩, ⟨Nat.zero_le _, Nat.zero_le _⟩⟩ dX9_open_8 rfl rfl (Nat.le_of_ble_eq_true rfl) rfl (fun z4 σ4 h => ?_)
    rw [h.1]
    have h := h.2
    obtain ⟨o5, h⟩ := h
    refine x_if_ne (q := 14) (tgt := 17) C dX9_open_11 rfl o5 rfl (fun c6 => ?_) (fun c6 => ?_)
    · have h := h.1 c6
      refine x_bipush (q := 19) (z := (-9)) C dX9_open_17 rfl rfl ?_
      refine x_istore_n (q := 20) (i := 3) (lv' := [(0, .ref (ad 0)), (1, .int (iI a0)), (2, .int (iI a1)), (3, .int (iI (-9)))]) C dX9_open_19 rfl (Nat.le_of_ble_eq_true rfl) [1, 2, 3, 0] rfl rfl ?_
      refine x_bipush (q := 22) (z := (-9)) C dX9_open_20 rfl rfl ?_
      refine x_istore (q := 24) (i := 4) (lv' := [(0, .ref (ad 0)), (1, .int (iI a0)), (2, .int (iI a1)), (3, .int (iI (-9))), (4, .int (iI (-9)))]) C dX9_open_22 (Nat.le_of_ble_eq_true rfl) [1, 2, 3, 4, 0] rfl rfl ?_
      refine x_iconst (q := 25) (z := 1) C dX9_open_24 rfl rfl ?_
      refine x_istore (q := 27) (i := 5) (lv' := [(0, .ref (ad 0)), (1, .int (iI a0)), (2, .int (iI a1)), (3, .int (iI (-9))), (4, .int (iI (-9))), (5, .int (iI 1))]) C dX9_open_25 (Nat.le_of_ble_eq_true rfl) [1, 2, 3, 4, 5, 0] rfl rfl ?_
      refine x_aload_n (q := 28) (i := 0) C dX9_open_27 rfl 0 rfl rfl ?_
      refine x_getR (q := 31) (c0 := 20) C (Nat.le_of_ble_eq_true rfl) ly_0 fk_RX9_47 rfl dX9_open_28 rfl ?_
      refine x_iload_n (q := 32) (i := 1) C dX9_open_31 rfl 1 rfl rfl ?_
      refine x_virV (q := 35) C (Nat.le_of_ble_eq_true rfl) ly_20 rfl ck_RX9_194 vk_X7_begin (m_X7_begin l hI h) ⟨⟨rfl, rfl⟩, ⟨Nat.le_of_ble_eq_true rfl, Nat.le_of_ble_eq_true rfl⟩, ⟨Nat.zero_le _, Nat.zero_le _⟩⟩ dX9_open_32 rfl rfl (Nat.le_of_ble_eq_true rfl) rfl (fun σ7 h => ?_)
      refine x_iconst (q := 36) (z := 0) C dX9_open_35 rfl rfl ?_
      refine x_istore (q := 38) (i := 6) (lv' := [(0, .ref (ad 0)), (1, .int (iI a0)), (2, .int (iI a1)), (3, .int (iI (-9))), (4, .int (iI (-9))), (5, .int (iI 1)), (6, .int (iI 0))]) C dX9_open_36 (Nat.le_of_ble_eq_true rfl) [1, 2, 3, 4, 5, 6, 0] rfl rfl ?_
      obtain ⟨I8, ⟨n08, h08⟩, hs8⟩ := h
      have L8 : ∀ (n8 : Nat) (v3_8 : Int) (v4_8 : Int) (v5_8 : Int) (v6_8 : Int) (σ8 : GS), I8 n8 v3_8 v4_8 v5_8 v6_8 σ8 → V p l e rm_X9_open s m args below meth c ad D cI cZ cG (Aw ad) 8 0 0 (MQ below (QI ad D cI cZ cG Post) args s 0 0 (Aw ad)) σ8 38 [(0, .ref (ad 0)), (1, .int (iI a0)), (2, .int (iI a1)), (3, .int (iI v3_8)), (4, .int (iI v4_8)), (5, .int (iI v5_8)), (6, .int (iI v6_8))] [] := by
        intro n8
        induction n8 using Nat.strongRecOn with
        | ind n8 ih8 =>
          intro v3_8 v4_8 v5_8 v6_8 σ8 h
          have h := hs8 n8 v3_8 v4_8 v5_8 v6_8 σ8 h
          refine x_iload (q := 40) C dX9_open_38 5 rfl rfl ?_
          obtain ⟨o9, h⟩ := h
          refine x_if_eq (q := 43) (tgt := 117) C dX9_open_40 rfl o9 rfl (fun c10 => ?_) (fun c10 => ?_)
          · have h := h.1 c10
            refine x_iload_n (q := 118) (i := 2) C dX9_open_117 rfl 2 rfl rfl ?_
            obtain ⟨o11, h⟩ := h
            refine x_if_ne (q := 121) (tgt := 125) C dX9_open_118 rfl o11 rfl (fun c12 => ?_) (fun c12 => ?_)
            · have h := h.1 c12
              refine x_iload (q := 127) C dX9_open_125 4 rfl rfl ?_
              exact x_iret C dX9_open_127 h
            · have h := h.2 c12
              refine x_iload_n (q := 122) (i := 3) C dX9_open_121 rfl 3 rfl rfl ?_
              refine x_goto (tgt := 127) C dX9_open_122 rfl ?_
              exact x_iret C dX9_open_127 h
          · have h := h.2 c10
            refine x_iload (q := 45) C dX9_open_43 6 rfl rfl ?_
            refine x_sipush (q := 48) (z := 3125) C dX9_open_45 rfl rfl ?_
            obtain ⟨o13, h⟩ := h
            refine x_icmp_ge (q := 51) (tgt := 117) C dX9_open_48 rfl ⟨o13, by decide⟩ rfl (fun c14 => ?_) (fun c14 => ?_)
            · have h := h.1 c14
              refine x_iload_n (q := 118) (i := 2) C dX9_open_117 rfl 2 rfl rfl ?_
              obtain ⟨o15, h⟩ := h
              refine x_if_ne (q := 121) (tgt := 125) C dX9_open_118 rfl o15 rfl (fun c16 => ?_) (fun c16 => ?_)
              · have h := h.1 c16
                refine x_iload (q := 127) C dX9_open_125 4 rfl rfl ?_
                exact x_iret C dX9_open_127 h
              · have h := h.2 c16
                refine x_iload_n (q := 122) (i := 3) C dX9_open_121 rfl 3 rfl rfl ?_
                refine x_goto (tgt := 127) C dX9_open_122 rfl ?_
                exact x_iret C dX9_open_127 h
            · have h := h.2 c14
              refine x_aload_n (q := 52) (i := 0) C dX9_open_51 rfl 0 rfl rfl ?_
              refine x_getR (q := 55) (c0 := 8) C (Nat.le_of_ble_eq_true rfl) ly_0 fk_RX9_32 rfl dX9_open_52 rfl ?_
              refine x_aload_n (q := 56) (i := 0) C dX9_open_55 rfl 0 rfl rfl ?_
              refine x_getR (q := 59) (c0 := 6) C (Nat.le_of_ble_eq_true rfl) ly_0 fk_RX9_28 rfl dX9_open_56 rfl ?_
              refine x_virI (q := 62) C (Nat.le_of_ble_eq_true rfl) ly_8 rfl ck_RX9_198 vk_X2_stepsFrom (m_X2_stepsFrom l hI h) ⟨⟨rfl, rfl⟩, ⟨Nat.le_of_ble_eq_true rfl, Nat.le_of_ble_eq_true rfl⟩, ⟨Nat.zero_le _, Nat.zero_le _⟩⟩ dX9_open_59 rfl rfl (Nat.le_of_ble_eq_true rfl) rfl (fun z17 σ17 h => ?_)
              rw [h.1]
              have h := h.2
              refine x_istore (q := 64) (i := 7) (lv' := [(0, .ref (ad 0)), (1, .int (iI a0)), (2, .int (iI a1)), (3, .int (iI v3_8)), (4, .int (iI v4_8)), (5, .int (iI v5_8)), (6, .int (iI v6_8)), (7, .int (iI z17))]) C dX9_open_62 (Nat.le_of_ble_eq_true rfl) [1, 2, 3, 4, 5, 6, 7, 0] rfl rfl ?_
              refine x_iload_n (q := 65) (i := 3) C dX9_open_64 rfl 3 rfl rfl ?_
              refine x_bipush (q := 67) (z := (-9)) C dX9_open_65 rfl rfl ?_
              obtain ⟨o18, h⟩ := h
              refine x_icmp_eq (q := 70) (tgt := 76) C dX9_open_67 rfl ⟨o18, by decide⟩ rfl (fun c19 => ?_) (fun c19 => ?_)
              · have h := h.1 c19
                refine x_aload_n (q := 77) (i := 0) C dX9_open_76 rfl 0 rfl rfl ?_
                refine x_getR (q := 80) (c0 := 21) C (Nat.le_of_ble_eq_true rfl) ly_0 fk_RX9_54 rfl dX9_open_77 rfl ?_
                refine x_aload_n (q := 81) (i := 0) C dX9_open_80 rfl 0 rfl rfl ?_
                refine x_getR (q := 84) (c0 := 10) C (Nat.le_of_ble_eq_true rfl) ly_0 fk_RX9_38 rfl dX9_open_81 rfl ?_
                refine x_virI (q := 87) C (Nat.le_of_ble_eq_true rfl) ly_21 rfl ck_RX9_202 vk_X8_isRead (m_X8_isRead l hI h) ⟨⟨rfl, rfl⟩, ⟨Nat.le_of_ble_eq_true rfl, Nat.le_of_ble_eq_true rfl⟩, ⟨Nat.zero_le _, Nat.zero_le _⟩⟩ dX9_open_84 rfl rfl (Nat.le_of_ble_eq_true rfl) rfl (fun z20 σ20 h => ?_)
                rw [h.1]
                have h := h.2
                obtain ⟨o21, h⟩ := h
                refine x_if_eq (q := 90) (tgt := 102) C dX9_open_87 rfl o21 rfl (fun c22 => ?_) (fun c22 => ?_)
                · have h := h.1 c22
                  refine x_aload_n (q := 103) (i := 0) C dX9_open_102 rfl 0 rfl rfl ?_
                  refine x_getR (q := 106) (c0 := 20) C (Nat.le_of_ble_eq_true rfl) ly_0 fk_RX9_47 rfl dX9_open_103 rfl ?_
                  refine x_virI (q := 109) C (Nat.le_of_ble_eq_true rfl) ly_20 rfl ck_RX9_209 vk_X7_step (m_X7_step l hI h) ⟨⟨rfl, rfl⟩, ⟨Nat.le_of_ble_eq_true rfl, Nat.le_of_ble_eq_true rfl⟩, ⟨Nat.zero_le _, Nat.zero_le _⟩⟩ dX9_open_106 rfl rfl (Nat.le_of_ble_eq_true rfl) rfl (fun z23 σ23 h => ?_)
                  refine x_istore (q := 111) (i := 5) (lv' := [(0, .ref (ad 0)), (1, .int (iI a0)), (2, .int (iI a1)), (3, .int (iI v3_8)), (4, .int (iI v4_8)), (5, .int (iI z23)), (6, .int (iI v6_8)), (7, .int (iI z17))]) C dX9_open_109 (Nat.le_of_ble_eq_true rfl) [1, 2, 3, 4, 5, 0, 6, 7] rfl rfl ?_
                  refine x_iinc (q := 114) (z' := v6_8 + 1) (lv' := [(0, .ref (ad 0)), (1, .int (iI a0)), (2, .int (iI a1)), (3, .int (iI v3_8)), (4, .int (iI v4_8)), (5, .int (iI z23)), (6, .int (iI (v6_8 + 1))), (7, .int (iI z17))]) C dX9_open_111 6 rfl rfl (Nat.le_of_ble_eq_true rfl) [1, 2, 3, 4, 5, 6, 0, 7] rfl rfl ?_
                  refine x_goto (tgt := 38) C dX9_open_114 rfl ?_
                  obtain ⟨n24, hl25, h⟩ := h
                  refine x_sub [0, 1, 2, 3, 4, 5, 6] rfl ?_
                  exact ih8 n24 hl25 _ _ _ _ _ h
                · have h := h.2 c22
                  refine x_iload (q := 92) C dX9_open_90 7 rfl rfl ?_
                  refine x_istore_n (q := 93) (i := 3) (lv' := [(0, .ref (ad 0)), (1, .int (iI a0)), (2, .int (iI a1)), (3, .int (iI z17)), (4, .int (iI v4_8)), (5, .int (iI v5_8)), (6, .int (iI v6_8)), (7, .int (iI z17))]) C dX9_open_92 rfl (Nat.le_of_ble_eq_true rfl) [1, 2, 3, 0, 4, 5, 6, 7] rfl rfl ?_
                  refine x_aload_n (q := 94) (i := 0) C dX9_open_93 rfl 0 rfl rfl ?_
                  refine x_getR (q := 97) (c0 := 8) C (Nat.le_of_ble_eq_true rfl) ly_0 fk_RX9_32 rfl dX9_open_94 rfl ?_
                  refine x_virI (q := 100) C (Nat.le_of_ble_eq_true rfl) ly_8 rfl ck_RX9_206 vk_X2_figures (m_X2_figures l hI h) ⟨⟨rfl, rfl⟩, ⟨Nat.le_of_ble_eq_true rfl, Nat.le_of_ble_eq_true rfl⟩, ⟨Nat.zero_le _, Nat.zero_le _⟩⟩ dX9_open_97 rfl rfl (Nat.le_of_ble_eq_true rfl) rfl (fun z26 σ26 h => ?_)
                  rw [h.1]
                  have h := h.2
                  refine x_istore (q := 102) (i := 4) (lv' := [(0, .ref (ad 0)), (1, .int (iI a0)), (2, .int (iI a1)), (3, .int (iI z17)), (4, .int (iI z26)), (5, .int (iI v5_8)), (6, .int (iI v6_8)), (7, .int (iI z17))]) C dX9_open_100 (Nat.le_of_ble_eq_true rfl) [1, 2, 3, 4, 0, 5, 6, 7] rfl rfl ?_
                  refine x_aload_n (q := 103) (i := 0) C dX9_open_102 rfl 0 rfl rfl ?_
                  refine x_getR (q := 106) (c0 := 20) C (Nat.le_of_ble_eq_true rfl) ly_0 fk_RX9_47 rfl dX9_open_103 rfl ?_
                  refine x_virI (q := 109) C (Nat.le_of_ble_eq_true rfl) ly_20 rfl ck_RX9_209 vk_X7_step (m_X7_step l hI h) ⟨⟨rfl, rfl⟩, ⟨Nat.le_of_ble_eq_true rfl, Nat.le_of_ble_eq_true rfl⟩, ⟨Nat.zero_le _, Nat.zero_le _⟩⟩ dX9_open_106 rfl rfl (Nat.le_of_ble_eq_true rfl) rfl (fun z27 σ27 h => ?_)
                  refine x_istore (q := 111) (i := 5) (lv' := [(0, .ref (ad 0)), (1, .int (iI a0)), (2, .int (iI a1)), (3, .int (iI z17)), (4, .int (iI z26)), (5, .int (iI z27)), (6, .int (iI v6_8)), (7, .int (iI z17))]) C dX9_open_109 (Nat.le_of_ble_eq_true rfl) [1, 2, 3, 4, 5, 0, 6, 7] rfl rfl ?_
                  refine x_iinc (q := 114) (z' := v6_8 + 1) (lv' := [(0, .ref (ad 0)), (1, .int (iI a0)), (2, .int (iI a1)), (3, .int (iI z17)), (4, .int (iI z26)), (5, .int (iI z27)), (6, .int (iI (v6_8 + 1))), (7, .int (iI z17))]) C dX9_open_111 6 rfl rfl (Nat.le_of_ble_eq_true rfl) [1, 2, 3, 4, 5, 6, 0, 7] rfl rfl ?_
                  refine x_goto (tgt := 38) C dX9_open_114 rfl ?_
                  obtain ⟨n28, hl29, h⟩ := h
                  refine x_sub [0, 1, 2, 3, 4, 5, 6] rfl ?_
                  exact ih8 n28 hl29 _ _ _ _ _ h
              · have h := h.2 c19
                refine x_iload (q := 72) C dX9_open_70 7 rfl rfl ?_
                refine x_iload_n (q := 73) (i := 3) C dX9_open_72 rfl 3 rfl rfl ?_
                obtain ⟨o30, h⟩ := h
                refine x_icmp_ge (q := 76) (tgt := 102) C dX9_open_73 rfl ⟨o30, o18⟩ rfl (fun c31 => ?_) (fun c31 => ?_)
                · have h := h.1 c31
                  refine x_aload_n (q := 103) (i := 0) C dX9_open_102 rfl 0 rfl rfl ?_
                  refine x_getR (q := 106) (c0 := 20) C (Nat.le_of_ble_eq_true rfl) ly_0 fk_RX9_47 rfl dX9_open_103 rfl ?_
                  refine x_virI (q := 109) C (Nat.le_of_ble_eq_true rfl) ly_20 rfl ck_RX9_209 vk_X7_step (m_X7_step l hI h) ⟨⟨rfl, rfl⟩, ⟨Nat.le_of_ble_eq_true rfl, Nat.le_of_ble_eq_true rfl⟩, ⟨Nat.zero_le _, Nat.zero_le _⟩⟩ dX9_open_106 rfl rfl (Nat.le_of_ble_eq_true rfl) rfl (fun z32 σ32 h => ?_)
                  refine x_istore (q := 111) (i := 5) (lv' := [(0, .ref (ad 0)), (1, .int (iI a0)), (2, .int (iI a1)), (3, .int (iI v3_8)), (4, .int (iI v4_8)), (5, .int (iI z32)), (6, .int (iI v6_8)), (7, .int (iI z17))]) C dX9_open_109 (Nat.le_of_ble_eq_true rfl) [1, 2, 3, 4, 5, 0, 6, 7] rfl rfl ?_
                  refine x_iinc (q := 114) (z' := v6_8 + 1) (lv' := [(0, .ref (ad 0)), (1, .int (iI a0)), (2, .int (iI a1)), (3, .int (iI v3_8)), (4, .int (iI v4_8)), (5, .int (iI z32)), (6, .int (iI (v6_8 + 1))), (7, .int (iI z17))]) C dX9_open_111 6 rfl rfl (Nat.le_of_ble_eq_true rfl) [1, 2, 3, 4, 5, 6, 0, 7] rfl rfl ?_
                  refine x_goto (tgt := 38) C dX9_open_114 rfl ?_
                  obtain ⟨n33, hl34, h⟩ := h
                  refine x_sub [0, 1, 2, 3, 4, 5, 6] rfl ?_
                  exact ih8 n33 hl34 _ _ _ _ _ h
                · have h := h.2 c31
                  refine x_aload_n (q := 77) (i := 0) C dX9_open_76 rfl 0 rfl rfl ?_
                  refine x_getR (q := 80) (c0 := 21) C (Nat.le_of_ble_eq_true rfl) ly_0 fk_RX9_54 rfl dX9_open_77 rfl ?_
                  refine x_aload_n (q := 81) (i := 0) C dX9_open_80 rfl 0 rfl rfl ?_
                  refine x_getR (q := 84) (c0 := 10) C (Nat.le_of_ble_eq_true rfl) ly_0 fk_RX9_38 rfl dX9_open_81 rfl ?_
                  refine x_virI (q := 87) C (Nat.le_of_ble_eq_true rfl) ly_21 rfl ck_RX9_202 vk_X8_isRead (m_X8_isRead l hI h) ⟨⟨rfl, rfl⟩, ⟨Nat.le_of_ble_eq_true rfl, Nat.le_of_ble_eq_true rfl⟩, ⟨Nat.zero_le _, Nat.zero_le _⟩⟩ dX9_open_84 rfl rfl (Nat.le_of_ble_eq_true rfl) rfl (fun z35 σ35 h => ?_)
                  rw [h.1]
                  have h := h.2
                  obtain ⟨o36, h⟩ := h
                  refine x_if_eq (q := 90) (tgt := 102) C dX9_open_87 rfl o36 rfl (fun c37 => ?_) (fun c37 => ?_)
                  · have h := h.1 c37
                    refine x_aload_n (q := 103) (i := 0) C dX9_open_102 rfl 0 rfl rfl ?_
                    refine x_getR (q := 106) (c0 := 20) C (Nat.le_of_ble_eq_true rfl) ly_0 fk_RX9_47 rfl dX9_open_103 rfl ?_
                    refine x_virI (q := 109) C (Nat.le_of_ble_eq_true rfl) ly_20 rfl ck_RX9_209 vk_X7_step (m_X7_step l hI h) ⟨⟨rfl, rfl⟩, ⟨Nat.le_of_ble_eq_true rfl, Nat.le_of_ble_eq_true rfl⟩, ⟨Nat.zero_le _, Nat.zero_le _⟩⟩ dX9_open_106 rfl rfl (Nat.le_of_ble_eq_true rfl) rfl (fun z38 σ38 h => ?_)
                    refine x_istore (q := 111) (i := 5) (lv' := [(0, .ref (ad 0)), (1, .int (iI a0)), (2, .int (iI a1)), (3, .int (iI v3_8)), (4, .int (iI v4_8)), (5, .int (iI z38)), (6, .int (iI v6_8)), (7, .int (iI z17))]) C dX9_open_109 (Nat.le_of_ble_eq_true rfl) [1, 2, 3, 4, 5, 0, 6, 7] rfl rfl ?_
                    refine x_iinc (q := 114) (z' := v6_8 + 1) (lv' := [(0, .ref (ad 0)), (1, .int (iI a0)), (2, .int (iI a1)), (3, .int (iI v3_8)), (4, .int (iI v4_8)), (5, .int (iI z38)), (6, .int (iI (v6_8 + 1))), (7, .int (iI z17))]) C dX9_open_111 6 rfl rfl (Nat.le_of_ble_eq_true rfl) [1, 2, 3, 4, 5, 6, 0, 7] rfl rfl ?_
                    refine x_goto (tgt := 38) C dX9_open_114 rfl ?_
                    obtain ⟨n39, hl40, h⟩ := h
                    refine x_sub [0, 1, 2, 3, 4, 5, 6] rfl ?_
                    exact ih8 n39 hl40 _ _ _ _ _ h
                  · have h := h.2 c37
                    refine x_iload (q := 92) C dX9_open_90 7 rfl rfl ?_
                    refine x_istore_n (q := 93) (i := 3) (lv' := [(0, .ref (ad 0)), (1, .int (iI a0)), (2, .int (iI a1)), (3, .int (iI z17)), (4, .int (iI v4_8)), (5, .int (iI v5_8)), (6, .int (iI v6_8)), (7, .int (iI z17))]) C dX9_open_92 rfl (Nat.le_of_ble_eq_true rfl) [1, 2, 3, 0, 4, 5, 6, 7] rfl rfl ?_
                    refine x_aload_n (q := 94) (i := 0) C dX9_open_93 rfl 0 rfl rfl ?_
                    refine x_getR (q := 97) (c0 := 8) C (Nat.le_of_ble_eq_true rfl) ly_0 fk_RX9_32 rfl dX9_open_94 rfl ?_
                    refine x_virI (q := 100) C (Nat.le_of_ble_eq_true rfl) ly_8 rfl ck_RX9_206 vk_X2_figures (m_X2_figures l hI h) ⟨⟨rfl, rfl⟩, ⟨Nat.le_of_ble_eq_true rfl, Nat.le_of_ble_eq_true rfl⟩, ⟨Nat.zero_le _, Nat.zero_le _⟩⟩ dX9_open_97 rfl rfl (Nat.le_of_ble_eq_true rfl) rfl (fun z41 σ41 h => ?_)
                    rw [h.1]
                    have h := h.2
                    refine x_istore (q := 102) (i := 4) (lv' := [(0, .ref (ad 0)), (1, .int (iI a0)), (2, .int (iI a1)), (3, .int (iI z17)), (4, .int (iI z41)), (5, .int (iI v5_8)), (6, .int (iI v6_8)), (7, .int (iI z17))]) C dX9_open_100 (Nat.le_of_ble_eq_true rfl) [1, 2, 3, 4, 0, 5, 6, 7] rfl rfl ?_
                    refine x_aload_n (q := 103) (i := 0) C dX9_open_102 rfl 0 rfl rfl ?_
                    refine x_getR (q := 106) (c0 := 20) C (Nat.le_of_ble_eq_true rfl) ly_0 fk_RX9_47 rfl dX9_open_103 rfl ?_
                    refine x_virI (q := 109) C (Nat.le_of_ble_eq_true rfl) ly_20 rfl ck_RX9_209 vk_X7_step (m_X7_step l hI h) ⟨⟨rfl, rfl⟩, ⟨Nat.le_of_ble_eq_true rfl, Nat.le_of_ble_eq_true rfl⟩, ⟨Nat.zero_le _, Nat.zero_le _⟩⟩ dX9_open_106 rfl rfl (Nat.le_of_ble_eq_true rfl) rfl (fun z42 σ42 h => ?_)
                    refine x_istore (q := 111) (i := 5) (lv' := [(0, .ref (ad 0)), (1, .int (iI a0)), (2, .int (iI a1)), (3, .int (iI z17)), (4, .int (iI z41)), (5, .int (iI z42)), (6, .int (iI v6_8)), (7, .int (iI z17))]) C dX9_open_109 (Nat.le_of_ble_eq_true rfl) [1, 2, 3, 4, 5, 0, 6, 7] rfl rfl ?_
                    refine x_iinc (q := 114) (z' := v6_8 + 1) (lv' := [(0, .ref (ad 0)), (1, .int (iI a0)), (2, .int (iI a1)), (3, .int (iI z17)), (4, .int (iI z41)), (5, .int (iI z42)), (6, .int (iI (v6_8 + 1))), (7, .int (iI z17))]) C dX9_open_111 6 rfl rfl (Nat.le_of_ble_eq_true rfl) [1, 2, 3, 4, 5, 6, 0, 7] rfl rfl ?_
                    refine x_goto (tgt := 38) C dX9_open_114 rfl ?_
                    obtain ⟨n43, hl44, h⟩ := h
                    refine x_sub [0, 1, 2, 3, 4, 5, 6] rfl ?_
                    exact ih8 n43 hl44 _ _ _ _ _ h
      exact L8 n08 (-9) (-9) 1 0 σ7 h08
    · have h := h.2 c6
      refine x_bipush (q := 16) (z := (-2)) C dX9_open_14 rfl rfl ?_
      exact x_iret C dX9_open_16 h
abbrev rm_X9_most : Room := { frames := 5, cells := 0, slots := 0, locals := 114 }
def vc_X9_most (σ : GS) (a0 : Int) (a1 : Int) (Post : Int → GS → Prop) : Prop :=
  vc_X9_isLetter σ a0 (fun (z1 : Int) =>
    (rg z1) ∧
  ((z1 = 0 →
    (Post (-2) σ)) ∧
  (¬ z1 = 0 →
    (vc_X9_isBit σ a1 (fun (z4 : Int) =>
      (rg z4) ∧
    ((¬ z4 = 0 →
      (vc_X7_begin σ 0 (fun (σ7 : GS) =>
        ∃ I8 : Nat → Int → Int → Int → Int → GS → Prop, (∃ n : Nat, I8 n (-9) (-9) 1 0 σ7) ∧ ∀ (n8 : Nat) (v3_8 : Int) (v4_8 : Int) (v5_8 : Int) (v6_8 : Int) (σ8 : GS), I8 n8 v3_8 v4_8 v5_8 v6_8 σ8 →
      ((rg v5_8) ∧
          ((v5_8 = 0 →
            ((rg a1) ∧
            ((¬ a1 = 0 →
              (Post v4_8 σ8)) ∧
            (a1 = 0 →
              (Post v3_8 σ8))))) ∧
          (¬ v5_8 = 0 →
            ((rg v6_8) ∧
            (((3125 : Int) ≤ v6_8 →
              ((rg a1) ∧
              ((¬ a1 = 0 →
                (Post v4_8 σ8)) ∧
              (a1 = 0 →
                (Post v3_8 σ8))))) ∧
            (¬ (3125 : Int) ≤ v6_8 →
              (vc_X6_placesWith σ8 a0 (fun (z17 : Int) =>
                (rg z17) ∧
              ((rg v3_8) ∧
              ((z17 ≤ v3_8 →
                (vc_X7_step σ8  (fun (z21 : Int) (σ21 : GS) =>
                  ∃ n' : Nat, n' < n8 ∧ I8 n' v3_8 v4_8 z21 (v6_8 + 1) σ21))) ∧
              (¬ z17 ≤ v3_8 →
                (vc_X2_figures σ8 8 (fun (z24 : Int) =>
                  vc_X7_step σ8  (fun (z25 : Int) (σ25 : GS) =>
                  ∃ n' : Nat, n' < n8 ∧ I8 n' z17 z24 z25 (v6_8 + 1) σ25))))))))))))))))) ∧
    (z4 = 0 →
      (Post (-2) σ))))))))
set_option maxHeartbeats 4000000 in
set_option maxRecDepth 10000 in
theorem m_X9_most (l : Launch) {ad : Nat → Nat} {D : va_G} {cI cZ cG : ClassId} (hI : Ij ad) {σ : GS} {a0 : Int} {a1 : Int} {Post : Int → GS → Prop} (h : vc_X9_most σ a0 a1 Post) : Met l yX9_most (wX yX9_most cX9_most 8 (some .int)) rm_X9_most (va_Pc [.ref (ad 0), .int (iI a0), .int (iI a1)] (Wd ad D cI cZ cG σ)) (QI ad D cI cZ cG Post) 0 0 (Aw ad) := by
  refine met_V (own := RX9) hI (by decide +kernel) rfl (Nat.le_of_ble_eq_true rfl) ?_
  intro p e s m args below meth c C
  unfold vc_X9_most at h
  show V p l e rm_X9_most s m args below meth c ad D cI cZ cG (Aw ad) 8 0 0 (MQ below (QI ad D cI cZ cG Post) args s 0 0 (Aw ad)) σ 0 [(0, .ref (ad 0)), (1, .int (iI a0)), (2, .int (iI a1))] []
  refine x_iload_n (q := 1) (i := 1) C dX9_most_0 rfl 1 rfl rfl ?_
  refine x_staI (q := 4) C ck_RX9_213 t2_5 (m_X9_isLetter l hI h) ⟨⟨rfl, rfl⟩, ⟨Nat.le_of_ble_eq_true rfl, Nat.le_of_ble_eq_true rfl⟩, ⟨Nat.zero_le _, Nat.zero_le _⟩⟩ dX9_most_1 rfl rfl (Nat.le_of_ble_eq_true rfl) rfl (fun z1 σ1 h => ?_)
  rw [h.1]
  have h := h.2
  obtain ⟨o2, h⟩ := h
  refine x_if_eq (q := 7) (tgt := 14) C dX9_most_4 rfl o2 rfl (fun c3 => ?_) (fun c3 => ?_)
  · have h := h.1 c3
    refine x_bipush (q := 16) (z := (-2)) C dX9_most_14 rfl rfl ?_
    exact x_iret C dX9_most_16 h
  · have h := h.2 c3
    refine x_iload_n (q := 8) (i := 2) C dX9_most_7 rfl 2 rfl rfl ?_
    refine x_staI (q := 11) C ck_RX9_154 t2_155 (m_X9_isBit l hI h) ⟨⟨rfl, rfl⟩, ⟨Nat.le_of_ble_eq_true rfl, Nat.le_of_ble_eq_true rfl⟩, ⟨Nat.zero_le _, Nat.zero_le _⟩⟩ dX9_most_8 rfl rfl (Nat.le_of_ble_eq_true rfl) rfl (fun z4 σ4 h => ?_)
    rw [h.1]
    have h := h.2
    obtain ⟨o5, h⟩ := h
    refine x_if_ne (q := 14) (tgt := 17) C dX9_most_11 rfl o5 rfl (fun c6 => ?_) (fun c6 => ?_)
    · have h := h.1 c6
      refine x_bipush (q := 19) (z := (-9)) C dX9_most_17 rfl rfl ?_
      refine x_istore_n (q := 20) (i := 3) (lv' := [(0, .ref (ad 0)), (1, .int (iI a0)), (2, .int (iI a1)), (3, .int (iI (-9)))]) C dX9_most_19 rfl (Nat.le_of_ble_eq_true rfl) [1, 2, 3, 0] rfl rfl ?_
      refine x_bipush (q := 22) (z := (-9)) C dX9_most_20 rfl rfl ?_
      refine x_istore (q := 24) (i := 4) (lv' := [(0, .ref (ad 0)), (1, .int (iI a0)), (2, .int (iI a1)), (3, .int (iI (-9))), (4, .int (iI (-9)))]) C dX9_most_22 (Nat.le_of_ble_eq_true rfl) [1, 2, 3, 4, 0] rfl rfl ?_
      refine x_iconst (q := 25) (z := 1) C dX9_most_24 rfl rfl ?_
      refine x_istore (q := 27) (i := 5) (lv' := [(0, .ref (ad 0)), (1, .int (iI a0)), (2, .int (iI a1)), (3, .int (iI (-9))), (4, .int (iI (-9))), (5, .int (iI 1))]) C dX9_most_25 (Nat.le_of_ble_eq_true rfl) [1, 2, 3, 4, 5, 0] rfl rfl ?_
      refine x_aload_n (q := 28) (i := 0) C dX9_most_27 rfl 0 rfl rfl ?_
      refine x_getR (q := 31) (c0 := 20) C (Nat.le_of_ble_eq_true rfl) ly_0 fk_RX9_47 rfl dX9_most_28 rfl ?_
      refine x_iconst (q := 32) (z := 0) C dX9_most_31 rfl rfl ?_
      refine x_virV (q := 35) C (Nat.le_of_ble_eq_true rfl) ly_20 rfl ck_RX9_194 vk_X7_begin (m_X7_begin l hI h) ⟨⟨rfl, rfl⟩, ⟨Nat.le_of_ble_eq_true rfl, Nat.le_of_ble_eq_true rfl⟩, ⟨Nat.zero_le _, Nat.zero_le _⟩⟩ dX9_most_32 rfl rfl (Nat.le_of_ble_eq_true rfl) rfl (fun σ7 h => ?_)
      refine x_iconst (q := 36) (z := 0) C dX9_most_35 rfl rfl ?_
      refine x_istore (q := 38) (i := 6) (lv' := [(0, .ref (ad 0)), (1, .int (iI a0)), (2, .int (iI a1)), (3, .int (iI (-9))), (4, .int (iI (-9))), (5, .int (iI 1)), (6, .int (iI 0))]) C dX9_most_36 (Nat.le_of_ble_eq_true rfl) [1, 2, 3, 4, 5, 6, 0] rfl rfl ?_
      obtain ⟨I8, ⟨n08, h08⟩, hs8⟩ := h
      have L8 : ∀ (n8 : Nat) (v3_8 : Int) (v4_8 : Int) (v5_8 : Int) (v6_8 : Int) (σ8 : GS), I8 n8 v3_8 v4_8 v5_8 v6_8 σ8 → V p l e rm_X9_most s m args below meth c ad D cI cZ cG (Aw ad) 8 0 0 (MQ below (QI ad D cI cZ cG Post) args s 0 0 (Aw ad)) σ8 38 [(0, .ref (ad 0)), (1, .int (iI a0)), (2, .int (iI a1)), (3, .int (iI v3_8)), (4, .int (iI v4_8)), (5, .int (iI v5_8)), (6, .int (iI v6_8))] [] := by
        intro n8
        induction n8 using Nat.strongRecOn with
        | ind n8 ih8 =>
          intro v3_8 v4_8 v5_8 v6_8 σ8 h
          have h := hs8 n8 v3_8 v4_8 v5_8 v6_8 σ8 h
          refine x_iload (q := 40) C dX9_most_38 5 rfl rfl ?_
          obtain ⟨o9, h⟩ := h
          refine x_if_eq (q := 43) (tgt := 94) C dX9_most_40 rfl o9 rfl (fun c10 => ?_) (fun c10 => ?_)
          · have h := h.1 c10
            refine x_iload_n (q := 95) (i := 2) C dX9_most_94 rfl 2 rfl rfl ?_
            obtain ⟨o11, h⟩ := h
            refine x_if_ne (q := 98) (tgt := 102) C dX9_most_95 rfl o11 rfl (fun c12 => ?_) (fun c12 => ?_)
            · have h := h.1 c12
              refine x_iload (q := 104) C dX9_most_102 4 rfl rfl ?_
              exact x_iret C dX9_most_104 h
            · have h := h.2 c12
              refine x_iload_n (q := 99) (i := 3) C dX9_most_98 rfl 3 rfl rfl ?_
              refine x_goto (tgt := 104) C dX9_most_99 rfl ?_
              exact x_iret C dX9_most_104 h
          · have h := h.2 c10
            refine x_iload (q := 45) C dX9_most_43 6 rfl rfl ?_
            refine x_sipush (q := 48) (z := 3125) C dX9_most_45 rfl rfl ?_
            obtain ⟨o13, h⟩ := h
            refine x_icmp_ge (q := 51) (tgt := 94) C dX9_most_48 rfl ⟨o13, by decide⟩ rfl (fun c14 => ?_) (fun c14 => ?_)
            · have h := h.1 c14
              refine x_iload_n (q := 95) (i := 2) C dX9_most_94 rfl 2 rfl rfl ?_
              obtain ⟨o15, h⟩ := h
              refine x_if_ne (q := 98) (tgt := 102) C dX9_most_95 rfl o15 rfl (fun c16 => ?_) (fun c16 => ?_)
              · have h := h.1 c16
                refine x_iload (q := 104) C dX9_most_102 4 rfl rfl ?_
                exact x_iret C dX9_most_104 h
              · have h := h.2 c16
                refine x_iload_n (q := 99) (i := 3) C dX9_most_98 rfl 3 rfl rfl ?_
                refine x_goto (tgt := 104) C dX9_most_99 rfl ?_
                exact x_iret C dX9_most_104 h
            · have h := h.2 c14
              refine x_aload_n (q := 52) (i := 0) C dX9_most_51 rfl 0 rfl rfl ?_
              refine x_getR (q := 55) (c0 := 10) C (Nat.le_of_ble_eq_true rfl) ly_0 fk_RX9_38 rfl dX9_most_52 rfl ?_
              refine x_iload_n (q := 56) (i := 1) C dX9_most_55 rfl 1 rfl rfl ?_
              refine x_virI (q := 59) C (Nat.le_of_ble_eq_true rfl) ly_10 rfl ck_RX9_216 vk_X6_placesWith (m_X6_placesWith l hI h) ⟨⟨rfl, rfl⟩, ⟨Nat.le_of_ble_eq_true rfl, Nat.le_of_ble_eq_true rfl⟩, ⟨Nat.zero_le _, Nat.zero_le _⟩⟩ dX9_most_56 rfl rfl (Nat.le_of_ble_eq_true rfl) rfl (fun z17 σ17 h => ?_)
              rw [h.1]
              have h := h.2
              refine x_istore (q := 61) (i := 7) (lv' := [(0, .ref (ad 0)), (1, .int (iI a0)), (2, .int (iI a1)), (3, .int (iI v3_8)), (4, .int (iI v4_8)), (5, .int (iI v5_8)), (6, .int (iI v6_8)), (7, .int (iI z17))]) C dX9_most_59 (Nat.le_of_ble_eq_true rfl) [1, 2, 3, 4, 5, 6, 7, 0] rfl rfl ?_
              refine x_iload (q := 63) C dX9_most_61 7 rfl rfl ?_
              refine x_iload_n (q := 64) (i := 3) C dX9_most_63 rfl 3 rfl rfl ?_
              obtain ⟨o18, h⟩ := h
              obtain ⟨o19, h⟩ := h
              refine x_icmp_le (q := 67) (tgt := 79) C dX9_most_64 rfl ⟨o18, o19⟩ rfl (fun c20 => ?_) (fun c20 => ?_)
              · have h := h.1 c20
                refine x_aload_n (q := 80) (i := 0) C dX9_most_79 rfl 0 rfl rfl ?_
                refine x_getR (q := 83) (c0 := 20) C (Nat.le_of_ble_eq_true rfl) ly_0 fk_RX9_47 rfl dX9_most_80 rfl ?_
                refine x_virI (q := 86) C (Nat.le_of_ble_eq_true rfl) ly_20 rfl ck_RX9_209 vk_X7_step (m_X7_step l hI h) ⟨⟨rfl, rfl⟩, ⟨Nat.le_of_ble_eq_true rfl, Nat.le_of_ble_eq_true rfl⟩, ⟨Nat.zero_le _, Nat.zero_le _⟩⟩ dX9_most_83 rfl rfl (Nat.le_of_ble_eq_true rfl) rfl (fun z21 σ21 h => ?_)
                refine x_istore (q := 88) (i := 5) (lv' := [(0, .ref (ad 0)), (1, .int (iI a0)), (2, .int (iI a1)), (3, .int (iI v3_8)), (4, .int (iI v4_8)), (5, .int (iI z21)), (6, .int (iI v6_8)), (7, .int (iI z17))]) C dX9_most_86 (Nat.le_of_ble_eq_true rfl) [1, 2, 3, 4, 5, 0, 6, 7] rfl rfl ?_
                refine x_iinc (q := 91) (z' := v6_8 + 1) (lv' := [(0, .ref (ad 0)), (1, .int (iI a0)), (2, .int (iI a1)), (3, .int (iI v3_8)), (4, .int (iI v4_8)), (5, .int (iI z21)), (6, .int (iI (v6_8 + 1))), (7, .int (iI z17))]) C dX9_most_88 6 rfl rfl (Nat.le_of_ble_eq_true rfl) [1, 2, 3, 4, 5, 6, 0, 7] rfl rfl ?_
                refine x_goto (tgt := 38) C dX9_most_91 rfl ?_
                obtain ⟨n22, hl23, h⟩ := h
                refine x_sub [0, 1, 2, 3, 4, 5, 6] rfl ?_
                exact ih8 n22 hl23 _ _ _ _ _ h
              · have h := h.2 c20
                refine x_iload (q := 69) C dX9_most_67 7 rfl rfl ?_
                refine x_istore_n (q := 70) (i := 3) (lv' := [(0, .ref (ad 0)), (1, .int (iI a0)), (2, .int (iI a1)), (3, .int (iI z17)), (4, .int (iI v4_8)), (5, .int (iI v5_8)), (6, .int (iI v6_8)), (7, .int (iI z17))]) C dX9_most_69 rfl (Nat.le_of_ble_eq_true rfl) [1, 2, 3, 0, 4, 5, 6, 7] rfl rfl ?_
                refine x_aload_n (q := 71) (i := 0) C dX9_most_70 rfl 0 rfl rfl ?_
                refine x_getR (q := 74) (c0 := 8) C (Nat.le_of_ble_eq_true rfl) ly_0 fk_RX9_32 rfl dX9_most_71 rfl ?_
                refine x_virI (q := 77) C (Nat.le_of_ble_eq_true rfl) ly_8 rfl ck_RX9_206 vk_X2_figures (m_X2_figures l hI h) ⟨⟨rfl, rfl⟩, ⟨Nat.le_of_ble_eq_true rfl, Nat.le_of_ble_eq_true rfl⟩, ⟨Nat.zero_le _, Nat.zero_le _⟩⟩ dX9_most_74 rfl rfl (Nat.le_of_ble_eq_true rfl) rfl (fun z24 σ24 h => ?_)
                rw [h.1]
                have h := h.2
                refine x_istore (q := 79) (i := 4) (lv' := [(0, .ref (ad 0)), (1, .int (iI a0)), (2, .int (iI a1)), (3, .int (iI z17)), (4, .int (iI z24)), (5, .int (iI v5_8)), (6, .int (iI v6_8)), (7, .int (iI z17))]) C dX9_most_77 (Nat.le_of_ble_eq_true rfl) [1, 2, 3, 4, 0, 5, 6, 7] rfl rfl ?_
                refine x_aload_n (q := 80) (i := 0) C dX9_most_79 rfl 0 rfl rfl ?_
                refine x_getR (q := 83) (c0 := 20) C (Nat.le_of_ble_eq_true rfl) ly_0 fk_RX9_47 rfl dX9_most_80 rfl ?_
                refine x_virI (q := 86) C (Nat.le_of_ble_eq_true rfl) ly_20 rfl ck_RX9_209 vk_X7_step (m_X7_step l hI h) ⟨⟨rfl, rfl⟩, ⟨Nat.le_of_ble_eq_true rfl, Nat.le_of_ble_eq_true rfl⟩, ⟨Nat.zero_le _, Nat.zero_le _⟩⟩ dX9_most_83 rfl rfl (Nat.le_of_ble_eq_true rfl) rfl (fun z25 σ25 h => ?_)
                refine x_istore (q := 88) (i := 5) (lv' := [(0, .ref (ad 0)), (1, .int (iI a0)), (2, .int (iI a1)), (3, .int (iI z17)), (4, .int (iI z24)), (5, .int (iI z25)), (6, .int (iI v6_8)), (7, .int (iI z17))]) C dX9_most_86 (Nat.le_of_ble_eq_true rfl) [1, 2, 3, 4, 5, 0, 6, 7] rfl rfl ?_
                refine x_iinc (q := 91) (z' := v6_8 + 1) (lv' := [(0, .ref (ad 0)), (1, .int (iI a0)), (2, .int (iI a1)), (3, .int (iI z17)), (4, .int (iI z24)), (5, .int (iI z25)), (6, .int (iI (v6_8 + 1))), (7, .int (iI z17))]) C dX9_most_88 6 rfl rfl (Nat.le_of_ble_eq_true rfl) [1, 2, 3, 4, 5, 6, 0, 7] rfl rfl ?_
                refine x_goto (tgt := 38) C dX9_most_91 rfl ?_
                obtain ⟨n26, hl27, h⟩ := h
                refine x_sub [0, 1, 2, 3, 4, 5, 6] rfl ?_
                exact ih8 n26 hl27 _ _ _ _ _ h
      exact L8 n08 (-9) (-9) 1 0 σ7 h08
    · have h := h.2 c6
      refine x_bipush (q := 16) (z := (-2)) C dX9_most_14 rfl rfl ?_
      exact x_iret C dX9_most_16 h
abbrev rm_X9_comesTrue : Room := { frames := 5, cells := 0, slots := 0, locals := 112 }
def vc_X9_comesTrue (σ : GS) (a0 : Int) (a1 : Int) (a2 : Int) (Post : Int → GS → Prop) : Prop :=
  (rg a0) ∧
  ((a0 < 1 ∨ 7 < a0 →
    (Post 0 σ)) ∧
  (a0 = 1 →
    ((rg a1) ∧
      ((¬ a1 = 0 →
        (Post 0 σ)) ∧
      (a1 = 0 →
        (vc_X2_widen σ 8 a2 (fun (z4 : Int) (σ4 : GS) =>
          (rg z4) ∧
        ((z4 = 0 →
          (Post 0 σ4)) ∧
        (¬ z4 = 0 →
          (Post 1 σ4))))))))) ∧
  (a0 = 2 →
    ((rg a1) ∧
      ((¬ a1 = 0 →
        (Post 0 σ)) ∧
      (a1 = 0 →
        (vc_X2_narrow σ 8 a2 (fun (z9 : Int) (σ9 : GS) =>
          (rg z9) ∧
        ((z9 = 0 →
          (Post 0 σ9)) ∧
        (¬ z9 = 0 →
          (Post 1 σ9))))))))) ∧
  (a0 = 3 →
    ((rg a1) ∧
      ((¬ a1 = 0 →
        (Post 0 σ)) ∧
      (a1 = 0 →
        ((rg a2) ∧
        ((a2 = 0 →
          (vc_X2_widenAll σ 8 (fun (z16 : Int) (σ16 : GS) =>
            Post 1 σ16))) ∧
        (¬ a2 = 0 →
          (Post 0 σ)))))))) ∧
  (a0 = 4 →
    ((rg a1) ∧
      ((¬ a1 = 0 →
        (Post 0 σ)) ∧
      (a1 = 0 →
        ((rg a2) ∧
        ((a2 = 0 →
          (vc_X2_clear σ 8 (fun (σ21 : GS) =>
            Post 1 σ21))) ∧
        (¬ a2 = 0 →
          (Post 0 σ)))))))) ∧
  (a0 = 5 →
    ((rg a1) ∧
      ((¬ a1 = 0 →
        (Post 0 σ)) ∧
      (a1 = 0 →
        (vc_X9_isBit σ a2 (fun (z24 : Int) =>
          (rg z24) ∧
        ((¬ z24 = 0 →
          (vc_X6_layAll σ 8 a2 (fun (σ27 : GS) =>
            vc_X8_isRead σ27  (fun (z28 : Int) =>
            (z28 = 0 ∨ z28 = 1) ∧
          (Post z28 σ27))))) ∧
        (z24 = 0 →
          (Post 0 σ))))))))) ∧
  (a0 = 6 →
    (vc_X6_layAll σ 8 0 (fun (σ30 : GS) =>
        vc_X1_has σ30 a1 (fun (z31 : Int) =>
        (rg z31) ∧
      ((z31 = 0 →
        (Post 0 σ30)) ∧
      (¬ z31 = 0 →
        (vc_X6_cellsSeen σ30 a1 (fun (z34 : Int) =>
          (rg z34) ∧
        ((rg a2) ∧
        ((z34 < a2 →
          (Post 0 σ30)) ∧
        (¬ z34 < a2 →
          (Post 1 σ30)))))))))))) ∧
  (a0 = 7 →
    (vc_X6_layAll σ 8 0 (fun (σ38 : GS) =>
        vc_X6_wide σ38  (fun (z39 : Int) =>
        (rg z39) ∧
      ((rg ((10 * a1) + a2)) ∧
      ((z39 < ((10 * a1) + a2) →
        (Post 0 σ38)) ∧
      (¬ z39 < ((10 * a1) + a2) →
        (Post 1 σ38)))))))))
set_option maxHeartbeats 4000000 in
set_option maxRecDepth 10000 in
theorem m_X9_comesTrue (l : Launch) {ad : Nat → Nat} {D : va_G} {cI cZ cG : ClassId} (hI : Ij ad) {σ : GS} {a0 : Int} {a1 : Int} {a2 : Int} {Post : Int → GS → Prop} (h : vc_X9_comesTrue σ a0 a1 a2 Post) : Met l yX9_comesTrue (wX yX9_comesTrue cX9_comesTrue 4 (some .boolean)) rm_X9_comesTrue (va_Pc [.ref (ad 0), .int (iI a0), .int (iI a1), .int (iI a2)] (Wd ad D cI cZ cG σ)) (QI ad D cI cZ cG Post) 0 0 (Aw ad) := by
  refine met_V (own := RX9) hI (by decide +kernel) rfl (Nat.le_of_ble_eq_true rfl) ?_
  intro p e s m args below meth c C
  unfold vc_X9_comesTrue at h
  show V p l e rm_X9_comesTrue s m args below meth c ad D cI cZ cG (Aw ad) 4 0 0 (MQ below (QI ad D cI cZ cG Post) args s 0 0 (Aw ad)) σ 0 [(0, .ref (ad 0)), (1, .int (iI a0)), (2, .int (iI a1)), (3, .int (iI a2))] []
  refine x_iload_n (q := 1) (i := 1) C dX9_comesTrue_0 rfl 1 rfl rfl ?_
  obtain ⟨o1, h⟩ := h
  refine x_table C dX9_comesTrue_1 o1 237 rfl [44, 65, 86, 106, 125, 162, 203] rfl rfl (fun c0 => ?_) (fun i t ht ha => ?_)
  · have h := h.1 c0
    refine x_iconst (q := 238) (z := 0) C dX9_comesTrue_237 rfl rfl ?_
    exact x_zret C dX9_comesTrue_238 (by decide) h
  · rcases i with _ | _ | _ | _ | _ | _ | _ | i
    · cases ht
      have h := h.2.1 (by omega)
      refine x_iload_n (q := 45) (i := 2) C dX9_comesTrue_44 rfl 2 rfl rfl ?_
      obtain ⟨o2, h⟩ := h
      refine x_if_ne (q := 48) (tgt := 63) C dX9_comesTrue_45 rfl o2 rfl (fun c3 => ?_) (fun c3 => ?_)
      · have h := h.1 c3
        refine x_iconst (q := 64) (z := 0) C dX9_comesTrue_63 rfl rfl ?_
        exact x_zret C dX9_comesTrue_64 (by decide) h
      · have h := h.2 c3
        refine x_aload_n (q := 49) (i := 0) C dX9_comesTrue_48 rfl 0 rfl rfl ?_
        refine x_getR (q := 52) (c0 := 8) C (Nat.le_of_ble_eq_true rfl) ly_0 fk_RX9_32 rfl dX9_comesTrue_49 rfl ?_
        refine x_iload_n (q := 53) (i := 3) C dX9_comesTrue_52 rfl 3 rfl rfl ?_
        refine x_virI (q := 56) C (Nat.le_of_ble_eq_true rfl) ly_8 rfl ck_RX9_170 vk_X2_widen (m_X2_widen l hI h) ⟨⟨rfl, rfl⟩, ⟨Nat.le_of_ble_eq_true rfl, Nat.le_of_ble_eq_true rfl⟩, ⟨Nat.zero_le _, Nat.zero_le _⟩⟩ dX9_comesTrue_53 rfl rfl (Nat.le_of_ble_eq_true rfl) rfl (fun z4 σ4 h => ?_)
        obtain ⟨o5, h⟩ := h
        refine x_if_eq (q := 59) (tgt := 63) C dX9_comesTrue_56 rfl o5 rfl (fun c6 => ?_) (fun c6 => ?_)
        · have h := h.1 c6
          refine x_iconst (q := 64) (z := 0) C dX9_comesTrue_63 rfl rfl ?_
          exact x_zret C dX9_comesTrue_64 (by decide) h
        · have h := h.2 c6
          refine x_iconst (q := 60) (z := 1) C dX9_comesTrue_59 rfl rfl ?_
          refine x_goto (tgt := 64) C dX9_comesTrue_60 rfl ?_
          exact x_zret C dX9_comesTrue_64 (by decide) h
    · cases ht
      have h := h.2.2.1 (by omega)
      refine x_iload_n (q := 66) (i := 2) C dX9_comesTrue_65 rfl 2 rfl rfl ?_
      obtain ⟨o7, h⟩ := h
      refine x_if_ne (q := 69) (tgt := 84) C dX9_comesTrue_66 rfl o7 rfl (fun c8 => ?_) (fun c8 => ?_)
      · have h := h.1 c8
        refine x_iconst (q := 85) (z := 0) C dX9_comesTrue_84 rfl rfl ?_
        exact x_zret C dX9_comesTrue_85 (by decide) h
      · have h := h.2 c8
        refine x_aload_n (q := 70) (i := 0) C dX9_comesTrue_69 rfl 0 rfl rfl ?_
        refine x_getR (q := 73) (c0 := 8) C (Nat.le_of_ble_eq_true rfl) ly_0 fk_RX9_32 rfl dX9_comesTrue_70 rfl ?_
        refine x_iload_n (q := 74) (i := 3) C dX9_comesTrue_73 rfl 3 rfl rfl ?_
        refine x_virI (q := 77) C (Nat.le_of_ble_eq_true rfl) ly_8 rfl ck_RX9_176 vk_X2_narrow (m_X2_narrow l hI h) ⟨⟨rfl, rfl⟩, ⟨Nat.le_of_ble_eq_true rfl, Nat.le_of_ble_eq_true rfl⟩, ⟨Nat.zero_le _, Nat.zero_le _⟩⟩ dX9_comesTrue_74 rfl rfl (Nat.le_of_ble_eq_true rfl) rfl (fun z9 σ9 h => ?_)
        obtain ⟨o10, h⟩ := h
        refine x_if_eq (q := 80) (tgt := 84) C dX9_comesTrue_77 rfl o10 rfl (fun c11 => ?_) (fun c11 => ?_)
        · have h := h.1 c11
          refine x_iconst (q := 85) (z := 0) C dX9_comesTrue_84 rfl rfl ?_
          exact x_zret C dX9_comesTrue_85 (by decide) h
        · have h := h.2 c11
          refine x_iconst (q := 81) (z := 1) C dX9_comesTrue_80 rfl rfl ?_
          refine x_goto (tgt := 85) C dX9_comesTrue_81 rfl ?_
          exact x_zret C dX9_comesTrue_85 (by decide) h
    · cases ht
      have h := h.2.2.2.1 (by omega)
      refine x_iload_n (q := 87) (i := 2) C dX9_comesTrue_86 rfl 2 rfl rfl ?_
      obtain ⟨o12, h⟩ := h
      refine x_if_ne (q := 90) (tgt := 94) C dX9_comesTrue_87 rfl o12 rfl (fun c13 => ?_) (fun c13 => ?_)
      · have h := h.1 c13
        refine x_iconst (q := 95) (z := 0) C dX9_comesTrue_94 rfl rfl ?_
        exact x_zret C dX9_comesTrue_95 (by decide) h
      · have h := h.2 c13
        refine x_iload_n (q := 91) (i := 3) C dX9_comesTrue_90 rfl 3 rfl rfl ?_
        obtain ⟨o14, h⟩ := h
        refine x_if_eq (q := 94) (tgt := 96) C dX9_comesTrue_91 rfl o14 rfl (fun c15 => ?_) (fun c15 => ?_)
        · have h := h.1 c15
          refine x_aload_n (q := 97) (i := 0) C dX9_comesTrue_96 rfl 0 rfl rfl ?_
          refine x_getR (q := 100) (c0 := 8) C (Nat.le_of_ble_eq_true rfl) ly_0 fk_RX9_32 rfl dX9_comesTrue_97 rfl ?_
          refine x_virI (q := 103) C (Nat.le_of_ble_eq_true rfl) ly_8 rfl ck_RX9_179 vk_X2_widenAll (m_X2_widenAll l hI h) ⟨⟨rfl, rfl⟩, ⟨Nat.le_of_ble_eq_true rfl, Nat.le_of_ble_eq_true rfl⟩, ⟨Nat.zero_le _, Nat.zero_le _⟩⟩ dX9_comesTrue_100 rfl rfl (Nat.le_of_ble_eq_true rfl) rfl (fun z16 σ16 h => ?_)
          refine x_pop (q := 104) C dX9_comesTrue_103 rfl rfl ?_
          refine x_iconst (q := 105) (z := 1) C dX9_comesTrue_104 rfl rfl ?_
          exact x_zret C dX9_comesTrue_105 (by decide) h
        · have h := h.2 c15
          refine x_iconst (q := 95) (z := 0) C dX9_comesTrue_94 rfl rfl ?_
          exact x_zret C dX9_comesTrue_95 (by decide) h
    · cases ht
      have h := h.2.2.2.2.1 (by omega)
      refine x_iload_n (q := 107) (i := 2) C dX9_comesTrue_106 rfl 2 rfl rfl ?_
      obtain ⟨o17, h⟩ := h
      refine x_if_ne (q := 110) (tgt := 114) C dX9_comesTrue_107 rfl o17 rfl (fun c18 => ?_) (fun c18 => ?_)
      · have h := h.1 c18
        refine x_iconst (q := 115) (z := 0) C dX9_comesTrue_114 rfl rfl ?_
        exact x_zret C dX9_comesTrue_115 (by decide) h
      · have h := h.2 c18
        refine x_iload_n (q := 111) (i := 3) C dX9_comesTrue_110 rfl 3 rfl rfl ?_
        obtain ⟨o19, h⟩ := h
        refine x_if_eq (q := 114) (tgt := 116) C dX9_comesTrue_111 rfl o19 rfl (fun c20 => ?_) (fun c20 => ?_)
        · have h := h.1 c20
          refine x_aload_n (q := 117) (i := 0) C dX9_comesTrue_116 rfl 0 rfl rfl ?_
          refine x_getR (q := 120) (c0 := 8) C (Nat.le_of_ble_eq_true rfl) ly_0 fk_RX9_32 rfl dX9_comesTrue_117 rfl ?_
          refine x_virV (q := 123) C (Nat.le_of_ble_eq_true rfl) ly_8 rfl ck_RX9_107 vk_X2_clear (m_X2_clear l hI h) ⟨⟨rfl, rfl⟩, ⟨Nat.le_of_ble_eq_true rfl, Nat.le_of_ble_eq_true rfl⟩, ⟨Nat.zero_le _, Nat.zero_le _⟩⟩ dX9_comesTrue_120 rfl rfl (Nat.le_of_ble_eq_true rfl) rfl (fun σ21 h => ?_)
          refine x_iconst (q := 124) (z := 1) C dX9_comesTrue_123 rfl rfl ?_
          exact x_zret C dX9_comesTrue_124 (by decide) h
        · have h := h.2 c20
          refine x_iconst (q := 115) (z := 0) C dX9_comesTrue_114 rfl rfl ?_
          exact x_zret C dX9_comesTrue_115 (by decide) h
    · cases ht
      have h := h.2.2.2.2.2.1 (by omega)
      refine x_iload_n (q := 126) (i := 2) C dX9_comesTrue_125 rfl 2 rfl rfl ?_
      obtain ⟨o22, h⟩ := h
      refine x_if_ne (q := 129) (tgt := 136) C dX9_comesTrue_126 rfl o22 rfl (fun c23 => ?_) (fun c23 => ?_)
      · have h := h.1 c23
        refine x_iconst (q := 137) (z := 0) C dX9_comesTrue_136 rfl rfl ?_
        exact x_zret C dX9_comesTrue_137 (by decide) h
      · have h := h.2 c23
        refine x_iload_n (q := 130) (i := 3) C dX9_comesTrue_129 rfl 3 rfl rfl ?_
        refine x_staI (q := 133) C ck_RX9_154 t2_155 (m_X9_isBit l hI h) ⟨⟨rfl, rfl⟩, ⟨Nat.le_of_ble_eq_true rfl, Nat.le_of_ble_eq_true rfl⟩, ⟨Nat.zero_le _, Nat.zero_le _⟩⟩ dX9_comesTrue_130 rfl rfl (Nat.le_of_ble_eq_true rfl) rfl (fun z24 σ24 h => ?_)
        rw [h.1]
        have h := h.2
        obtain ⟨o25, h⟩ := h
        refine x_if_ne (q := 136) (tgt := 138) C dX9_comesTrue_133 rfl o25 rfl (fun c26 => ?_) (fun c26 => ?_)
        · have h := h.1 c26
          refine x_aload_n (q := 139) (i := 0) C dX9_comesTrue_138 rfl 0 rfl rfl ?_
          refine x_getR (q := 142) (c0 := 10) C (Nat.le_of_ble_eq_true rfl) ly_0 fk_RX9_38 rfl dX9_comesTrue_139 rfl ?_
          refine x_aload_n (q := 143) (i := 0) C dX9_comesTrue_142 rfl 0 rfl rfl ?_
          refine x_getR (q := 146) (c0 := 8) C (Nat.le_of_ble_eq_true rfl) ly_0 fk_RX9_32 rfl dX9_comesTrue_143 rfl ?_
          refine x_iload_n (q := 147) (i := 3) C dX9_comesTrue_146 rfl 3 rfl rfl ?_
          refine x_virV (q := 150) C (Nat.le_of_ble_eq_true rfl) ly_10 rfl ck_RX9_138 vk_X6_layAll (m_X6_layAll l hI h) ⟨⟨rfl, rfl⟩, ⟨Nat.le_of_ble_eq_true rfl, Nat.le_of_ble_eq_true rfl⟩, ⟨Nat.zero_le _, Nat.zero_le _⟩⟩ dX9_comesTrue_147 rfl rfl (Nat.le_of_ble_eq_true rfl) rfl (fun σ27 h => ?_)
          refine x_aload_n (q := 151) (i := 0) C dX9_comesTrue_150 rfl 0 rfl rfl ?_
          refine x_getR (q := 154) (c0 := 21) C (Nat.le_of_ble_eq_true rfl) ly_0 fk_RX9_54 rfl dX9_comesTrue_151 rfl ?_
          refine x_aload_n (q := 155) (i := 0) C dX9_comesTrue_154 rfl 0 rfl rfl ?_
          refine x_getR (q := 158) (c0 := 10) C (Nat.le_of_ble_eq_true rfl) ly_0 fk_RX9_38 rfl dX9_comesTrue_155 rfl ?_
          refine x_virI (q := 161) C (Nat.le_of_ble_eq_true rfl) ly_21 rfl ck_RX9_202 vk_X8_isRead (m_X8_isRead l hI h) ⟨⟨rfl, rfl⟩, ⟨Nat.le_of_ble_eq_true rfl, Nat.le_of_ble_eq_true rfl⟩, ⟨Nat.zero_le _, Nat.zero_le _⟩⟩ dX9_comesTrue_158 rfl rfl (Nat.le_of_ble_eq_true rfl) rfl (fun z28 σ28 h => ?_)
          rw [h.1]
          have h := h.2
          obtain ⟨o29, h⟩ := h
          exact x_zret C dX9_comesTrue_161 o29 h
        · have h := h.2 c26
          refine x_iconst (q := 137) (z := 0) C dX9_comesTrue_136 rfl rfl ?_
          exact x_zret C dX9_comesTrue_137 (by decide) h
    · cases ht
      have h := h.2.2.2.2.2.2.1 (by omega)
      refine x_aload_n (q := 163) (i := 0) C dX9_comesTrue_162 rfl 0 rfl rfl ?_
      refine x_getR (q := 166) (c0 := 10) C (Nat.le_of_ble_eq_true rfl) ly_0 fk_RX9_38 rfl dX9_comesTrue_163 rfl ?_
      refine x_aload_n (q := 167) (i := 0) C dX9_comesTrue_166 rfl 0 rfl rfl ?_
      refine x_getR (q := 170) (c0 := 8) C (Nat.le_of_ble_eq_true rfl) ly_0 fk_RX9_32 rfl dX9_comesTrue_167 rfl ?_
      refine x_iconst (q := 171) (z := 0) C dX9_comesTrue_170 rfl rfl ?_
      refine x_virV (q := 174) C (Nat.le_of_ble_eq_true rfl) ly_10 rfl ck_RX9_138 vk_X6_layAll (m_X6_layAll l hI h) ⟨⟨rfl, rfl⟩, ⟨Nat.le_of_ble_eq_true rfl, Nat.le_of_ble_eq_true rfl⟩, ⟨Nat.zero_le _, Nat.zero_le _⟩⟩ dX9_comesTrue_171 rfl rfl (Nat.le_of_ble_eq_true rfl) rfl (fun σ30 h => ?_)
      refine x_aload_n (q := 175) (i := 0) C dX9_comesTrue_174 rfl 0 rfl rfl ?_
      refine x_getR (q := 178) (c0 := 3) C (Nat.le_of_ble_eq_true rfl) ly_0 fk_RX9_19 rfl dX9_comesTrue_175 rfl ?_
      refine x_iload_n (q := 179) (i := 2) C dX9_comesTrue_178 rfl 2 rfl rfl ?_
      refine x_virI (q := 182) C (Nat.le_of_ble_eq_true rfl) ly_3 rfl ck_RX9_125 vk_X1_has (m_X1_has l hI h) ⟨⟨rfl, rfl⟩, ⟨Nat.le_of_ble_eq_true rfl, Nat.le_of_ble_eq_true rfl⟩, ⟨Nat.zero_le _, Nat.zero_le _⟩⟩ dX9_comesTrue_179 rfl rfl (Nat.le_of_ble_eq_true rfl) rfl (fun z31 σ31 h => ?_)
      rw [h.1]
      have h := h.2
      obtain ⟨o32, h⟩ := h
      refine x_if_eq (q := 185) (tgt := 201) C dX9_comesTrue_182 rfl o32 rfl (fun c33 => ?_) (fun c33 => ?_)
      · have h := h.1 c33
        refine x_iconst (q := 202) (z := 0) C dX9_comesTrue_201 rfl rfl ?_
        exact x_zret C dX9_comesTrue_202 (by decide) h
      · have h := h.2 c33
        refine x_aload_n (q := 186) (i := 0) C dX9_comesTrue_185 rfl 0 rfl rfl ?_
        refine x_getR (q := 189) (c0 := 10) C (Nat.le_of_ble_eq_true rfl) ly_0 fk_RX9_38 rfl dX9_comesTrue_186 rfl ?_
        refine x_iload_n (q := 190) (i := 2) C dX9_comesTrue_189 rfl 2 rfl rfl ?_
        refine x_virI (q := 193) C (Nat.le_of_ble_eq_true rfl) ly_10 rfl ck_RX9_142 vk_X6_cellsSeen (m_X6_cellsSeen l hI h) ⟨⟨rfl, rfl⟩, ⟨Nat.le_of_ble_eq_true rfl, Nat.le_of_ble_eq_true rfl⟩, ⟨Nat.zero_le _, Nat.zero_le _⟩⟩ dX9_comesTrue_190 rfl rfl (Nat.le_of_ble_eq_true rfl) rfl (fun z34 σ34 h => ?_)
        rw [h.1]
        have h := h.2
        refine x_iload_n (q := 194) (i := 3) C dX9_comesTrue_193 rfl 3 rfl rfl ?_
        obtain ⟨o35, h⟩ := h
        obtain ⟨o36, h⟩ := h
        refine x_icmp_lt (q := 197) (tgt := 201) C dX9_comesTrue_194 rfl ⟨o35, o36⟩ rfl (fun c37 => ?_) (fun c37 => ?_)
        · have h := h.1 c37
          refine x_iconst (q := 202) (z := 0) C dX9_comesTrue_201 rfl rfl ?_
          exact x_zret C dX9_comesTrue_202 (by decide) h
        · have h := h.2 c37
          refine x_iconst (q := 198) (z := 1) C dX9_comesTrue_197 rfl rfl ?_
          refine x_goto (tgt := 202) C dX9_comesTrue_198 rfl ?_
          exact x_zret C dX9_comesTrue_202 (by decide) h
    · cases ht
      have h := h.2.2.2.2.2.2.2 (by omega)
      refine x_aload_n (q := 204) (i := 0) C dX9_comesTrue_203 rfl 0 rfl rfl ?_
      refine x_getR (q := 207) (c0 := 10) C (Nat.le_of_ble_eq_true rfl) ly_0 fk_RX9_38 rfl dX9_comesTrue_204 rfl ?_
      refine x_aload_n (q := 208) (i := 0) C dX9_comesTrue_207 rfl 0 rfl rfl ?_
      refine x_getR (q := 211) (c0 := 8) C (Nat.le_of_ble_eq_true rfl) ly_0 fk_RX9_32 rfl dX9_comesTrue_208 rfl ?_
      refine x_iconst (q := 212) (z := 0) C dX9_comesTrue_211 rfl rfl ?_
      refine x_virV (q := 215) C (Nat.le_of_ble_eq_true rfl) ly_10 rfl ck_RX9_138 vk_X6_layAll (m_X6_layAll l hI h) ⟨⟨rfl, rfl⟩, ⟨Nat.le_of_ble_eq_true rfl, Nat.le_of_ble_eq_true rfl⟩, ⟨Nat.zero_le _, Nat.zero_le _⟩⟩ dX9_comesTrue_212 rfl rfl (Nat.le_of_ble_eq_true rfl) rfl (fun σ38 h => ?_)
      refine x_aload_n (q := 216) (i := 0) C dX9_comesTrue_215 rfl 0 rfl rfl ?_
      refine x_getR (q := 219) (c0 := 10) C (Nat.le_of_ble_eq_true rfl) ly_0 fk_RX9_38 rfl dX9_comesTrue_216 rfl ?_
      refine x_virI (q := 222) C (Nat.le_of_ble_eq_true rfl) ly_10 rfl ck_RX9_273 vk_X6_wide (m_X6_wide l hI h) ⟨⟨rfl, rfl⟩, ⟨Nat.le_of_ble_eq_true rfl, Nat.le_of_ble_eq_true rfl⟩, ⟨Nat.zero_le _, Nat.zero_le _⟩⟩ dX9_comesTrue_219 rfl rfl (Nat.le_of_ble_eq_true rfl) rfl (fun z39 σ39 h => ?_)
      rw [h.1]
      have h := h.2
      refine x_bipush (q := 224) (z := 10) C dX9_comesTrue_222 rfl rfl ?_
      refine x_iload_n (q := 225) (i := 2) C dX9_comesTrue_224 rfl 2 rfl rfl ?_
      refine x_imul (q := 226) C dX9_comesTrue_225  rfl ?_
      refine x_iload_n (q := 227) (i := 3) C dX9_comesTrue_226 rfl 3 rfl rfl ?_
      refine x_iadd (q := 228) C dX9_comesTrue_227  rfl ?_
      obtain ⟨o40, h⟩ := h
      obtain ⟨o41, h⟩ := h
      refine x_icmp_lt (q := 231) (tgt := 235) C dX9_comesTrue_228 rfl ⟨o40, o41⟩ rfl (fun c42 => ?_) (fun c42 => ?_)
      · have h := h.1 c42
        refine x_iconst (q := 236) (z := 0) C dX9_comesTrue_235 rfl rfl ?_
        exact x_zret C dX9_comesTrue_236 (by decide) h
      · have h := h.2 c42
        refine x_iconst (q := 232) (z := 1) C dX9_comesTrue_231 rfl rfl ?_
        refine x_goto (tgt := 236) C dX9_comesTrue_232 rfl ?_
        exact x_zret C dX9_comesTrue_236 (by decide) h
    · simp at ht
abbrev rm_X9_judge : Room := { frames := 6, cells := 0, slots := 0, locals := 135 }
def vc_X9_judge (σ : GS) (a0 : Int) (a1 : Int) (Post : Int → GS → Prop) : Prop :=
  (rg a0) ∧
  ((a0 < 1 →
    (Post (-2) σ)) ∧
  (¬ a0 < 1 →
    (((4 : Int) < a0 →
      (Post (-2) σ)) ∧
    (¬ (4 : Int) < a0 →
      (vc_X9_hasFigures σ a1 (3 * a0) (fun (z4 : Int) =>
        (rg z4) ∧
      ((¬ z4 = 0 →
        (∃ I7 : Nat → Int → Int → GS → Prop, (∃ n : Nat, I7 n a1 (a0 - 1) σ) ∧ ∀ (n7 : Nat) (v4_7 : Int) (v6_7 : Int) (σ7 : GS), I7 n7 v4_7 v6_7 σ7 →
        ((rg v6_7) ∧
            ((v6_7 < 0 →
              (vc_X2_copyFrom σ7 8 6 (fun (σ10 : GS) =>
                ∃ I11 : Nat → Int → GS → Prop, (∃ n : Nat, I11 n 0 σ10) ∧ ∀ (n11 : Nat) (v6_11 : Int) (σ11 : GS), I11 n11 v6_11 σ11 →
              ((rg v6_11) ∧
                  ((a0 ≤ v6_11 →
                    (Post (-9) σ11)) ∧
                  (¬ a0 ≤ v6_11 →
                    ((0 ≤ v6_11 ∧ v6_11 < 4) ∧
                    ((0 ≤ (σ11 50 v6_11.toNat) ∧ (σ11 50 v6_11.toNat) ≤ 2147483647) ∧
                    ((0 ≤ ((σ11 50 v6_11.toNat) / 10) ∧ ((σ11 50 v6_11.toNat) / 10) ≤ 2147483647) ∧
                    (vc_X9_comesTrue σ11 ((σ11 50 v6_11.toNat) / 100) (((σ11 50 v6_11.toNat) / 10) % 10) ((σ11 50 v6_11.toNat) % 10) (fun (z17 : Int) (σ17 : GS) =>
                      (rg z17) ∧
                    ((¬ z17 = 0 →
                      (∃ n' : Nat, n' < n11 ∧ I11 n' (v6_11 + 1) σ17)) ∧
                    (z17 = 0 →
                      (Post v6_11 σ17)))))))))))))) ∧
            (¬ v6_7 < 0 →
              ((0 ≤ v4_7 ∧ v4_7 ≤ 9223372036854775807) ∧
              ((0 ≤ v6_7 ∧ v6_7 < 4) ∧
              (∃ n' : Nat, n' < n7 ∧ I7 n' (v4_7 / 1000) (v6_7 + (-1)) (up2 σ7 50 v6_7.toNat (v4_7 % 1000)))))))))) ∧
      (z4 = 0 →
        (Post (-2) σ)))))))))
set_option maxHeartbeats 4000000 in
set_option maxRecDepth 10000 in
theorem m_X9_judge (l : Launch) {ad : Nat → Nat} {D : va_G} {cI cZ cG : ClassId} (hI : Ij ad) {σ : GS} {a0 : Int} {a1 : Int} {Post : Int → GS → Prop} (h : vc_X9_judge σ a0 a1 Post) : Met l yX9_judge (wX yX9_judge cX9_judge 8 (some .int)) rm_X9_judge (va_Pc [.ref (ad 0), .int (iI a0), .long (lI a1)] (Wd ad D cI cZ cG σ)) (QI ad D cI cZ cG Post) 0 0 (Aw ad) := by
  refine met_V (own := RX9) hI (by decide +kernel) rfl (Nat.le_of_ble_eq_true rfl) ?_
  intro p e s m args below meth c C
  unfold vc_X9_judge at h
  show V p l e rm_X9_judge s m args below meth c ad D cI cZ cG (Aw ad) 8 0 0 (MQ below (QI ad D cI cZ cG Post) args s 0 0 (Aw ad)) σ 0 [(0, .ref (ad 0)), (1, .int (iI a0)), (2, .long (lI a1))] []
  refine x_iload_n (q := 1) (i := 1) C dX9_judge_0 rfl 1 rfl rfl ?_
  refine x_iconst (q := 2) (z := 1) C dX9_judge_1 rfl rfl ?_
  obtain ⟨o1, h⟩ := h
  refine x_icmp_lt (q := 5) (tgt := 20) C dX9_judge_2 rfl ⟨o1, by decide⟩ rfl (fun c2 => ?_) (fun c2 => ?_)
  · have h := h.1 c2
    refine x_bipush (q := 22) (z := (-2)) C dX9_judge_20 rfl rfl ?_
    exact x_iret C dX9_judge_22 h
  · have h := h.2 c2
    refine x_iload_n (q := 6) (i := 1) C dX9_judge_5 rfl 1 rfl rfl ?_
    refine x_iconst (q := 7) (z := 4) C dX9_judge_6 rfl rfl ?_
    refine x_icmp_gt (q := 10) (tgt := 20) C dX9_judge_7 rfl ⟨o1, by decide⟩ rfl (fun c3 => ?_) (fun c3 => ?_)
    · have h := h.1 c3
      refine x_bipush (q := 22) (z := (-2)) C dX9_judge_20 rfl rfl ?_
      exact x_iret C dX9_judge_22 h
    · have h := h.2 c3
      refine x_lload_n (q := 11) (i := 2) C dX9_judge_10 rfl 2 rfl rfl ?_
      refine x_iconst (q := 12) (z := 3) C dX9_judge_11 rfl rfl ?_
      refine x_iload_n (q := 13) (i := 1) C dX9_judge_12 rfl 1 rfl rfl ?_
      refine x_imul (q := 14) C dX9_judge_13  rfl ?_
      refine x_staI (q := 17) C ck_RX9_113 t2_45 (m_X9_hasFigures l hI h) ⟨⟨rfl, rfl⟩, ⟨Nat.le_of_ble_eq_true rfl, Nat.le_of_ble_eq_true rfl⟩, ⟨Nat.zero_le _, Nat.zero_le _⟩⟩ dX9_judge_14 rfl rfl (Nat.le_of_ble_eq_true rfl) rfl (fun z4 σ4 h => ?_)
      rw [h.1]
      have h := h.2
      obtain ⟨o5, h⟩ := h
      refine x_if_ne (q := 20) (tgt := 23) C dX9_judge_17 rfl o5 rfl (fun c6 => ?_) (fun c6 => ?_)
      · have h := h.1 c6
        refine x_lload_n (q := 24) (i := 2) C dX9_judge_23 rfl 2 rfl rfl ?_
        refine x_lstore (q := 26) (i := 4) (lv' := [(0, .ref (ad 0)), (1, .int (iI a0)), (2, .long (lI a1)), (4, .long (lI a1))]) C dX9_judge_24 (Nat.le_of_ble_eq_true rfl) [1, 2, 3, 0] rfl rfl ?_
        refine x_iload_n (q := 27) (i := 1) C dX9_judge_26 rfl 1 rfl rfl ?_
        refine x_iconst (q := 28) (z := 1) C dX9_judge_27 rfl rfl ?_
        refine x_isub (q := 29) C dX9_judge_28  rfl ?_
        refine x_istore (q := 31) (i := 6) (lv' := [(0, .ref (ad 0)), (1, .int (iI a0)), (2, .long (lI a1)), (4, .long (lI a1)), (6, .int (iI (a0 - 1)))]) C dX9_judge_29 (Nat.le_of_ble_eq_true rfl) [1, 2, 3, 4, 0] rfl rfl ?_
        obtain ⟨I7, ⟨n07, h07⟩, hs7⟩ := h
        have L7 : ∀ (n7 : Nat) (v4_7 : Int) (v6_7 : Int) (σ7 : GS), I7 n7 v4_7 v6_7 σ7 → V p l e rm_X9_judge s m args below meth c ad D cI cZ cG (Aw ad) 8 0 0 (MQ below (QI ad D cI cZ cG Post) args s 0 0 (Aw ad)) σ7 31 [(0, .ref (ad 0)), (1, .int (iI a0)), (2, .long (lI a1)), (4, .long (lI v4_7)), (6, .int (iI v6_7))] [] := by
          intro n7
          induction n7 using Nat.strongRecOn with
          | ind n7 ih7 =>
            intro v4_7 v6_7 σ7 h
            have h := hs7 n7 v4_7 v6_7 σ7 h
            refine x_iload (q := 33) C dX9_judge_31 4 rfl rfl ?_
            obtain ⟨o8, h⟩ := h
            refine x_if_lt (q := 36) (tgt := 64) C dX9_judge_33 rfl o8 rfl (fun c9 => ?_) (fun c9 => ?_)
            · have h := h.1 c9
              refine x_aload_n (q := 65) (i := 0) C dX9_judge_64 rfl 0 rfl rfl ?_
              refine x_getR (q := 68) (c0 := 8) C (Nat.le_of_ble_eq_true rfl) ly_0 fk_RX9_32 rfl dX9_judge_65 rfl ?_
              refine x_aload_n (q := 69) (i := 0) C dX9_judge_68 rfl 0 rfl rfl ?_
              refine x_getR (q := 72) (c0 := 6) C (Nat.le_of_ble_eq_true rfl) ly_0 fk_RX9_28 rfl dX9_judge_69 rfl ?_
              refine x_virV (q := 75) C (Nat.le_of_ble_eq_true rfl) ly_8 rfl ck_RX9_221 vk_X2_copyFrom (m_X2_copyFrom l hI h) ⟨⟨rfl, rfl⟩, ⟨Nat.le_of_ble_eq_true rfl, Nat.le_of_ble_eq_true rfl⟩, ⟨Nat.zero_le _, Nat.zero_le _⟩⟩ dX9_judge_72 rfl rfl (Nat.le_of_ble_eq_true rfl) rfl (fun σ10 h => ?_)
              refine x_iconst (q := 76) (z := 0) C dX9_judge_75 rfl rfl ?_
              refine x_istore (q := 78) (i := 6) (lv' := [(0, .ref (ad 0)), (1, .int (iI a0)), (2, .long (lI a1)), (4, .long (lI v4_7)), (6, .int (iI 0))]) C dX9_judge_76 (Nat.le_of_ble_eq_true rfl) [1, 2, 3, 4, 0] rfl rfl ?_
              obtain ⟨I11, ⟨n011, h011⟩, hs11⟩ := h
              have L11 : ∀ (n11 : Nat) (v6_11 : Int) (σ11 : GS), I11 n11 v6_11 σ11 → V p l e rm_X9_judge s m args below meth c ad D cI cZ cG (Aw ad) 8 0 0 (MQ below (QI ad D cI cZ cG Post) args s 0 0 (Aw ad)) σ11 78 [(0, .ref (ad 0)), (1, .int (iI a0)), (2, .long (lI a1)), (4, .long (lI v4_7)), (6, .int (iI v6_11))] [] := by
                intro n11
                induction n11 using Nat.strongRecOn with
                | ind n11 ih11 =>
                  intro v6_11 σ11 h
                  have h := hs11 n11 v6_11 σ11 h
                  refine x_iload (q := 80) C dX9_judge_78 4 rfl rfl ?_
                  refine x_iload_n (q := 81) (i := 1) C dX9_judge_80 rfl 1 rfl rfl ?_
                  obtain ⟨o12, h⟩ := h
                  refine x_icmp_ge (q := 84) (tgt := 127) C dX9_judge_81 rfl ⟨o12, o1⟩ rfl (fun c13 => ?_) (fun c13 => ?_)
                  · have h := h.1 c13
                    refine x_bipush (q := 129) (z := (-9)) C dX9_judge_127 rfl rfl ?_
                    exact x_iret C dX9_judge_129 h
                  · have h := h.2 c13
                    refine x_aload_n (q := 85) (i := 0) C dX9_judge_84 rfl 0 rfl rfl ?_
                    refine x_getR (q := 88) (c0 := 50) C (Nat.le_of_ble_eq_true rfl) ly_0 fk_RX9_86 rfl dX9_judge_85 rfl ?_
                    refine x_iload (q := 90) C dX9_judge_88 4 rfl rfl ?_
                    obtain ⟨o14, h⟩ := h
                    refine x_iald (q := 91) C (Nat.le_of_ble_eq_true rfl) ly_50 dX9_judge_90 (ix o14 rfl) (Nat.le_of_ble_eq_true rfl) rfl ?_
                    refine x_istore (q := 93) (i := 7) (lv' := [(0, .ref (ad 0)), (1, .int (iI a0)), (2, .long (lI a1)), (4, .long (lI v4_7)), (6, .int (iI v6_11)), (7, .int (iI (σ11 50 v6_11.toNat)))]) C dX9_judge_91 (Nat.le_of_ble_eq_true rfl) [1, 2, 3, 4, 5, 0] rfl rfl ?_
                    refine x_aload_n (q := 94) (i := 0) C dX9_judge_93 rfl 0 rfl rfl ?_
                    refine x_iload (q := 96) C dX9_judge_94 5 rfl rfl ?_
                    refine x_bipush (q := 98) (z := 100) C dX9_judge_96 rfl rfl ?_
                    obtain ⟨o15, h⟩ := h
                    refine x_idiv (q := 99) C dX9_judge_98 ⟨o15, by decide⟩ rfl ?_
                    refine x_iload (q := 101) C dX9_judge_99 5 rfl rfl ?_
                    refine x_bipush (q := 103) (z := 10) C dX9_judge_101 rfl rfl ?_
                    refine x_idiv (q := 104) C dX9_judge_103 ⟨o15, by decide⟩ rfl ?_
                    refine x_bipush (q := 106) (z := 10) C dX9_judge_104 rfl rfl ?_
                    obtain ⟨o16, h⟩ := h
                    refine x_irem (q := 107) C dX9_judge_106 ⟨o16, by decide⟩ rfl ?_
                    refine x_iload (q := 109) C dX9_judge_107 5 rfl rfl ?_
                    refine x_bipush (q := 111) (z := 10) C dX9_judge_109 rfl rfl ?_
                    refine x_irem (q := 112) C dX9_judge_111 ⟨o15, by decide⟩ rfl ?_
                    refine x_virI (q := 115) C (Nat.le_of_ble_eq_true rfl) ly_0 rfl ck_RX9_224 vk_X9_comesTrue (m_X9_comesTrue l hI h) ⟨⟨rfl, rfl⟩, ⟨Nat.le_of_ble_eq_true rfl, Nat.le_of_ble_eq_true rfl⟩, ⟨Nat.zero_le _, Nat.zero_le _⟩⟩ dX9_judge_112 rfl rfl (Nat.le_of_ble_eq_true rfl) rfl (fun z17 σ17 h => ?_)
                    obtain ⟨o18, h⟩ := h
                    refine x_if_ne (q := 118) (tgt := 121) C dX9_judge_115 rfl o18 rfl (fun c19 => ?_) (fun c19 => ?_)
                    · have h := h.1 c19
                      refine x_iinc (q := 124) (z' := v6_11 + 1) (lv' := [(0, .ref (ad 0)), (1, .int (iI a0)), (2, .long (lI a1)), (4, .long (lI v4_7)), (6, .int (iI (v6_11 + 1))), (7, .int (iI (σ11 50 v6_11.toNat)))]) C dX9_judge_121 4 rfl rfl (Nat.le_of_ble_eq_true rfl) [1, 2, 3, 4, 0, 5] rfl rfl ?_
                      refine x_goto (tgt := 78) C dX9_judge_124 rfl ?_
                      obtain ⟨n20, hl21, h⟩ := h
                      refine x_sub [0, 1, 2, 3, 4] rfl ?_
                      exact ih11 n20 hl21 _ _ h
                    · have h := h.2 c19
                      refine x_iload (q := 120) C dX9_judge_118 4 rfl rfl ?_
                      exact x_iret C dX9_judge_120 h
              exact L11 n011 0 σ10 h011
            · have h := h.2 c9
              refine x_aload_n (q := 37) (i := 0) C dX9_judge_36 rfl 0 rfl rfl ?_
              refine x_getR (q := 40) (c0 := 50) C (Nat.le_of_ble_eq_true rfl) ly_0 fk_RX9_86 rfl dX9_judge_37 rfl ?_
              refine x_iload (q := 42) C dX9_judge_40 4 rfl rfl ?_
              refine x_lload (q := 44) C dX9_judge_42 3 rfl rfl ?_
              refine x_ldc2 (q := 47) (z := 1000) C dX9_judge_44 t3_74 rfl rfl ?_
              obtain ⟨o22, h⟩ := h
              refine x_lrem (q := 48) C dX9_judge_47 ⟨o22, by decide⟩ rfl ?_
              refine x_l2i (q := 49) C dX9_judge_48  rfl ?_
              obtain ⟨o23, h⟩ := h
              refine x_iast (q := 50) C (Nat.le_of_ble_eq_true rfl) ly_50 dX9_judge_49 (ix o23 rfl) (Nat.le_of_ble_eq_true rfl)  rfl ?_
              refine x_lload (q := 52) C dX9_judge_50 3 rfl rfl ?_
              refine x_ldc2 (q := 55) (z := 1000) C dX9_judge_52 t3_74 rfl rfl ?_
              refine x_ldiv (q := 56) C dX9_judge_55 ⟨o22, by decide⟩ rfl ?_
              refine x_lstore (q := 58) (i := 4) (lv' := [(0, .ref (ad 0)), (1, .int (iI a0)), (2, .long (lI a1)), (4, .long (lI (v4_7 / 1000))), (6, .int (iI v6_7))]) C dX9_judge_56 (Nat.le_of_ble_eq_true rfl) [1, 2, 3, 0, 4] rfl rfl ?_
              refine x_iinc (q := 61) (z' := v6_7 + (-1)) (lv' := [(0, .ref (ad 0)), (1, .int (iI a0)), (2, .long (lI a1)), (4, .long (lI (v4_7 / 1000))), (6, .int (iI (v6_7 + (-1))))]) C dX9_judge_58 4 rfl rfl (Nat.le_of_ble_eq_true rfl) [1, 2, 3, 4, 0] rfl rfl ?_
              refine x_goto (tgt := 31) C dX9_judge_61 rfl ?_
              obtain ⟨n24, hl25, h⟩ := h
              refine x_sub [0, 1, 2, 3, 4] rfl ?_
              exact ih7 n24 hl25 _ _ _ h
        exact L7 n07 a1 (a0 - 1) σ h07
      · have h := h.2 c6
        refine x_bipush (q := 22) (z := (-2)) C dX9_judge_20 rfl rfl ?_
        exact x_iret C dX9_judge_22 h
abbrev rm_X9_spy : Room := { frames := 1, cells := 0, slots := 0, locals := 23 }
def vc_X9_spy (σ : GS) (a0 : Int) (a1 : Int) (a2 : Int) (Post : Int → GS → Prop) : Prop :=
  vc_X9_isPlace σ a0 (fun (z1 : Int) =>
    (rg z1) ∧
  ((¬ z1 = 0 →
    (vc_X9_isLetter σ a1 (fun (z4 : Int) =>
      (rg z4) ∧
    ((z4 = 0 →
      (Post (-2) σ)) ∧
    (¬ z4 = 0 →
      (vc_X9_isBit σ a2 (fun (z7 : Int) =>
        (rg z7) ∧
      ((¬ z7 = 0 →
        ((rg a2) ∧
        ((¬ a2 = 1 →
          (vc_X5_add σ a0 a1 0 (fun (z12 : Int) (σ12 : GS) =>
            (rg z12) ∧
          ((z12 = 0 →
            (Post (-4) σ12)) ∧
          (¬ z12 = 0 →
            (vc_X5_size σ12  (fun (z15 : Int) =>
              Post z15 σ12))))))) ∧
        (a2 = 1 →
          (vc_X5_add σ a0 a1 1 (fun (z16 : Int) (σ16 : GS) =>
            (rg z16) ∧
          ((z16 = 0 →
            (Post (-4) σ16)) ∧
          (¬ z16 = 0 →
            (vc_X5_size σ16  (fun (z19 : Int) =>
              Post z19 σ16)))))))))) ∧
      (z7 = 0 →
        (Post (-2) σ)))))))))) ∧
  (z1 = 0 →
    (Post (-1) σ))))
set_option maxHeartbeats 4000000 in
set_option maxRecDepth 10000 in
theorem m_X9_spy (l : Launch) {ad : Nat → Nat} {D : va_G} {cI cZ cG : ClassId} (hI : Ij ad) {σ : GS} {a0 : Int} {a1 : Int} {a2 : Int} {Post : Int → GS → Prop} (h : vc_X9_spy σ a0 a1 a2 Post) : Met l yX9_spy (wX yX9_spy cX9_spy 4 (some .int)) rm_X9_spy (va_Pc [.ref (ad 0), .int (iI a0), .int (iI a1), .int (iI a2)] (Wd ad D cI cZ cG σ)) (QI ad D cI cZ cG Post) 0 0 (Aw ad) := by
  refine met_V (own := RX9) hI (by decide +kernel) rfl (Nat.le_of_ble_eq_true rfl) ?_
  intro p e s m args below meth c C
  unfold vc_X9_spy at h
  show V p l e rm_X9_spy s m args below meth c ad D cI cZ cG (Aw ad) 4 0 0 (MQ below (QI ad D cI cZ cG Post) args s 0 0 (Aw ad)) σ 0 [(0, .ref (ad 0)), (1, .int (iI a0)), (2, .int (iI a1)), (3, .int (iI a2))] []
  refine x_iload_n (q := 1) (i := 1) C dX9_spy_0 rfl 1 rfl rfl ?_
  refine x_staI (q := 4) C ck_RX9_151 t2_113 (m_X9_isPlace l hI h) ⟨⟨rfl, rfl⟩, ⟨Nat.le_of_ble_eq_true rfl, Nat.le_of_ble_eq_true rfl⟩, ⟨Nat.zero_le _, Nat.zero_le _⟩⟩ dX9_spy_1 rfl rfl (Nat.le_of_ble_eq_true rfl) rfl (fun z1 σ1 h => ?_)
  rw [h.1]
  have h := h.2
  obtain ⟨o2, h⟩ := h
  refine x_if_ne (q := 7) (tgt := 9) C dX9_spy_4 rfl o2 rfl (fun c3 => ?_) (fun c3 => ?_)
  · have h := h.1 c3
    refine x_iload_n (q := 10) (i := 2) C dX9_spy_9 rfl 2 rfl rfl ?_
    refine x_staI (q := 13) C ck_RX9_213 t2_5 (m_X9_isLetter l hI h) ⟨⟨rfl, rfl⟩, ⟨Nat.le_of_ble_eq_true rfl, Nat.le_of_ble_eq_true rfl⟩, ⟨Nat.zero_le _, Nat.zero_le _⟩⟩ dX9_spy_10 rfl rfl (Nat.le_of_ble_eq_true rfl) rfl (fun z4 σ4 h => ?_)
    rw [h.1]
    have h := h.2
    obtain ⟨o5, h⟩ := h
    refine x_if_eq (q := 16) (tgt := 23) C dX9_spy_13 rfl o5 rfl (fun c6 => ?_) (fun c6 => ?_)
    · have h := h.1 c6
      refine x_bipush (q := 25) (z := (-2)) C dX9_spy_23 rfl rfl ?_
      exact x_iret C dX9_spy_25 h
    · have h := h.2 c6
      refine x_iload_n (q := 17) (i := 3) C dX9_spy_16 rfl 3 rfl rfl ?_
      refine x_staI (q := 20) C ck_RX9_154 t2_155 (m_X9_isBit l hI h) ⟨⟨rfl, rfl⟩, ⟨Nat.le_of_ble_eq_true rfl, Nat.le_of_ble_eq_true rfl⟩, ⟨Nat.zero_le _, Nat.zero_le _⟩⟩ dX9_spy_17 rfl rfl (Nat.le_of_ble_eq_true rfl) rfl (fun z7 σ7 h => ?_)
      rw [h.1]
      have h := h.2
      obtain ⟨o8, h⟩ := h
      refine x_if_ne (q := 23) (tgt := 26) C dX9_spy_20 rfl o8 rfl (fun c9 => ?_) (fun c9 => ?_)
      · have h := h.1 c9
        refine x_aload_n (q := 27) (i := 0) C dX9_spy_26 rfl 0 rfl rfl ?_
        refine x_getR (q := 30) (c0 := 44) C (Nat.le_of_ble_eq_true rfl) ly_0 fk_RX9_75 rfl dX9_spy_27 rfl ?_
        refine x_iload_n (q := 31) (i := 1) C dX9_spy_30 rfl 1 rfl rfl ?_
        refine x_iload_n (q := 32) (i := 2) C dX9_spy_31 rfl 2 rfl rfl ?_
        refine x_iload_n (q := 33) (i := 3) C dX9_spy_32 rfl 3 rfl rfl ?_
        refine x_iconst (q := 34) (z := 1) C dX9_spy_33 rfl rfl ?_
        obtain ⟨o10, h⟩ := h
        refine x_icmp_ne (q := 37) (tgt := 41) C dX9_spy_34 rfl ⟨o10, by decide⟩ rfl (fun c11 => ?_) (fun c11 => ?_)
        · have h := h.1 c11
          refine x_iconst (q := 42) (z := 0) C dX9_spy_41 rfl rfl ?_
          refine x_virI (q := 45) C (Nat.le_of_ble_eq_true rfl) ly_44 rfl ck_RX9_228 vk_X5_add (m_X5_add l hI h) ⟨⟨rfl, rfl⟩, ⟨Nat.le_of_ble_eq_true rfl, Nat.le_of_ble_eq_true rfl⟩, ⟨Nat.zero_le _, Nat.zero_le _⟩⟩ dX9_spy_42 rfl rfl (Nat.le_of_ble_eq_true rfl) rfl (fun z12 σ12 h => ?_)
          obtain ⟨o13, h⟩ := h
          refine x_if_eq (q := 48) (tgt := 58) C dX9_spy_45 rfl o13 rfl (fun c14 => ?_) (fun c14 => ?_)
          · have h := h.1 c14
            refine x_bipush (q := 60) (z := (-4)) C dX9_spy_58 rfl rfl ?_
            exact x_iret C dX9_spy_60 h
          · have h := h.2 c14
            refine x_aload_n (q := 49) (i := 0) C dX9_spy_48 rfl 0 rfl rfl ?_
            refine x_getR (q := 52) (c0 := 44) C (Nat.le_of_ble_eq_true rfl) ly_0 fk_RX9_75 rfl dX9_spy_49 rfl ?_
            refine x_virI (q := 55) C (Nat.le_of_ble_eq_true rfl) ly_44 rfl ck_RX9_232 vk_X5_size (m_X5_size l hI h) ⟨⟨rfl, rfl⟩, ⟨Nat.le_of_ble_eq_true rfl, Nat.le_of_ble_eq_true rfl⟩, ⟨Nat.zero_le _, Nat.zero_le _⟩⟩ dX9_spy_52 rfl rfl (Nat.le_of_ble_eq_true rfl) rfl (fun z15 σ15 h => ?_)
            rw [h.1]
            have h := h.2
            refine x_goto (tgt := 60) C dX9_spy_55 rfl ?_
            exact x_iret C dX9_spy_60 h
        · have h := h.2 c11
          refine x_iconst (q := 38) (z := 1) C dX9_spy_37 rfl rfl ?_
          refine x_goto (tgt := 42) C dX9_spy_38 rfl ?_
          refine x_virI (q := 45) C (Nat.le_of_ble_eq_true rfl) ly_44 rfl ck_RX9_228 vk_X5_add (m_X5_add l hI h) ⟨⟨rfl, rfl⟩, ⟨Nat.le_of_ble_eq_true rfl, Nat.le_of_ble_eq_true rfl⟩, ⟨Nat.zero_le _, Nat.zero_le _⟩⟩ dX9_spy_42 rfl rfl (Nat.le_of_ble_eq_true rfl) rfl (fun z16 σ16 h => ?_)
          obtain ⟨o17, h⟩ := h
          refine x_if_eq (q := 48) (tgt := 58) C dX9_spy_45 rfl o17 rfl (fun c18 => ?_) (fun c18 => ?_)
          · have h := h.1 c18
            refine x_bipush (q := 60) (z := (-4)) C dX9_spy_58 rfl rfl ?_
            exact x_iret C dX9_spy_60 h
          · have h := h.2 c18
            refine x_aload_n (q := 49) (i := 0) C dX9_spy_48 rfl 0 rfl rfl ?_
            refine x_getR (q := 52) (c0 := 44) C (Nat.le_of_ble_eq_true rfl) ly_0 fk_RX9_75 rfl dX9_spy_49 rfl ?_
            refine x_virI (q := 55) C (Nat.le_of_ble_eq_true rfl) ly_44 rfl ck_RX9_232 vk_X5_size (m_X5_size l hI h) ⟨⟨rfl, rfl⟩, ⟨Nat.le_of_ble_eq_true rfl, Nat.le_of_ble_eq_true rfl⟩, ⟨Nat.zero_le _, Nat.zero_le _⟩⟩ dX9_spy_52 rfl rfl (Nat.le_of_ble_eq_true rfl) rfl (fun z19 σ19 h => ?_)
            rw [h.1]
            have h := h.2
            refine x_goto (tgt := 60) C dX9_spy_55 rfl ?_
            exact x_iret C dX9_spy_60 h
      · have h := h.2 c9
        refine x_bipush (q := 25) (z := (-2)) C dX9_spy_23 rfl rfl ?_
        exact x_iret C dX9_spy_25 h
  · have h := h.2 c3
    refine x_iconst (q := 8) (z := (-1)) C dX9_spy_7 rfl rfl ?_
    exact x_iret C dX9_spy_8 h
abbrev rm_X9_unspy : Room := { frames := 1, cells := 0, slots := 0, locals := 20 }
def vc_X9_unspy (σ : GS)  (Post : Int → GS → Prop) : Prop :=
  vc_X5_size σ  (fun (z1 : Int) =>
    vc_X5_clear σ  (fun (σ2 : GS) =>
    Post z1 σ2))
set_option maxHeartbeats 4000000 in
set_option maxRecDepth 10000 in
theorem m_X9_unspy (l : Launch) {ad : Nat → Nat} {D : va_G} {cI cZ cG : ClassId} (hI : Ij ad) {σ : GS}  {Post : Int → GS → Prop} (h : vc_X9_unspy σ  Post) : Met l yX9_unspy (wX yX9_unspy cX9_unspy 2 (some .int)) rm_X9_unspy (va_Pc [.ref (ad 0)] (Wd ad D cI cZ cG σ)) (QI ad D cI cZ cG Post) 0 0 (Aw ad) := by
  refine met_V (own := RX9) hI (by decide +kernel) rfl (Nat.le_of_ble_eq_true rfl) ?_
  intro p e s m args below meth c C
  unfold vc_X9_unspy at h
  show V p l e rm_X9_unspy s m args below meth c ad D cI cZ cG (Aw ad) 2 0 0 (MQ below (QI ad D cI cZ cG Post) args s 0 0 (Aw ad)) σ 0 [(0, .ref (ad 0))] []
  refine x_aload_n (q := 1) (i := 0) C dX9_unspy_0 rfl 0 rfl rfl ?_
  refine x_getR (q := 4) (c0 := 44) C (Nat.le_of_ble_eq_true rfl) ly_0 fk_RX9_75 rfl dX9_unspy_1 rfl ?_
  refine x_virI (q := 7) C (Nat.le_of_ble_eq_true rfl) ly_44 rfl ck_RX9_232 vk_X5_size (m_X5_size l hI h) ⟨⟨rfl, rfl⟩, ⟨Nat.le_of_ble_eq_true rfl, Nat.le_of_ble_eq_true rfl⟩, ⟨Nat.zero_le _, Nat.zero_le _⟩⟩ dX9_unspy_4 rfl rfl (Nat.le_of_ble_eq_true rfl) rfl (fun z1 σ1 h => ?_)
  rw [h.1]
  have h := h.2
  refine x_istore_n (q := 8) (i := 1) (lv' := [(0, .ref (ad 0)), (1, .int (iI z1))]) C dX9_unspy_7 rfl (Nat.le_of_ble_eq_true rfl) [1, 0] rfl rfl ?_
  refine x_aload_n (q := 9) (i := 0) C dX9_unspy_8 rfl 0 rfl rfl ?_
  refine x_getR (q := 12) (c0 := 44) C (Nat.le_of_ble_eq_true rfl) ly_0 fk_RX9_75 rfl dX9_unspy_9 rfl ?_
  refine x_virV (q := 15) C (Nat.le_of_ble_eq_true rfl) ly_44 rfl ck_RX9_233 vk_X5_clear (m_X5_clear l hI h) ⟨⟨rfl, rfl⟩, ⟨Nat.le_of_ble_eq_true rfl, Nat.le_of_ble_eq_true rfl⟩, ⟨Nat.zero_le _, Nat.zero_le _⟩⟩ dX9_unspy_12 rfl rfl (Nat.le_of_ble_eq_true rfl) rfl (fun σ2 h => ?_)
  refine x_iload_n (q := 16) (i := 1) C dX9_unspy_15 rfl 1 rfl rfl ?_
  exact x_iret C dX9_unspy_16 h
abbrev rm_X9_gaps : Room := { frames := 5, cells := 0, slots := 0, locals := 114 }
def vc_X9_gaps (σ : GS) (a0 : Int) (Post : Int → GS → Prop) : Prop :=
  vc_X9_isBit σ a0 (fun (z1 : Int) =>
    (rg z1) ∧
  ((¬ z1 = 0 →
    (vc_X7_begin σ 0 (fun (σ4 : GS) =>
      ∃ I5 : Nat → Int → Int → Int → Int → GS → Prop, (∃ n : Nat, I5 n 0 (-9) 1 0 σ4) ∧ ∀ (n5 : Nat) (v2_5 : Int) (v3_5 : Int) (v4_5 : Int) (v5_5 : Int) (σ5 : GS), I5 n5 v2_5 v3_5 v4_5 v5_5 σ5 →
    ((rg v4_5) ∧
        ((v4_5 = 0 →
          ((rg a0) ∧
          ((¬ a0 = 0 →
            (Post v3_5 σ5)) ∧
          (a0 = 0 →
            (Post v2_5 σ5))))) ∧
        (¬ v4_5 = 0 →
          ((rg v5_5) ∧
          (((3125 : Int) ≤ v5_5 →
            ((rg a0) ∧
            ((¬ a0 = 0 →
              (Post v3_5 σ5)) ∧
            (a0 = 0 →
              (Post v2_5 σ5))))) ∧
          (¬ (3125 : Int) ≤ v5_5 →
            (vc_X5_fits σ5  (fun (z14 : Int) =>
              (rg z14) ∧
            ((z14 = 0 →
              (vc_X7_step σ5  (fun (z17 : Int) (σ17 : GS) =>
                ∃ n' : Nat, n' < n5 ∧ I5 n' v2_5 v3_5 z17 (v5_5 + 1) σ17))) ∧
            (¬ z14 = 0 →
              ((rg v3_5) ∧
              ((¬ v3_5 = (-9) →
                (vc_X7_step σ5  (fun (z22 : Int) (σ22 : GS) =>
                  ∃ n' : Nat, n' < n5 ∧ I5 n' (v2_5 + 1) v3_5 z22 (v5_5 + 1) σ22))) ∧
              (v3_5 = (-9) →
                (vc_X2_figures σ5 8 (fun (z25 : Int) =>
                  vc_X7_step σ5  (fun (z26 : Int) (σ26 : GS) =>
                  ∃ n' : Nat, n' < n5 ∧ I5 n' (v2_5 + 1) z25 z26 (v5_5 + 1) σ26))))))))))))))))))) ∧
  (z1 = 0 →
    (Post (-2) σ))))
set_option maxHeartbeats 4000000 in
set_option maxRecDepth 10000 in
theorem m_X9_gaps (l : Launch) {ad : Nat → Nat} {D : va_G} {cI cZ cG : ClassId} (hI : Ij ad) {σ : GS} {a0 : Int} {Post : Int → GS → Prop} (h : vc_X9_gaps σ a0 Post) : Met l yX9_gaps (wX yX9_gaps cX9_gaps 6 (some .int)) rm_X9_gaps (va_Pc [.ref (ad 0), .int (iI a0)] (Wd ad D cI cZ cG σ)) (QI ad D cI cZ cG Post) 0 0 (Aw ad) := by
  refine met_V (own := RX9) hI (by decide +kernel) rfl (Nat.le_of_ble_eq_true rfl) ?_
  intro p e s m args below meth c C
  unfold vc_X9_gaps at h
  show V p l e rm_X9_gaps s m args below meth c ad D cI cZ cG (Aw ad) 6 0 0 (MQ below (QI ad D cI cZ cG Post) args s 0 0 (Aw ad)) σ 0 [(0, .ref (ad 0)), (1, .int (iI a0))] []
  refine x_iload_n (q := 1) (i := 1) C dX9_gaps_0 rfl 1 rfl rfl ?_
  refine x_staI (q := 4) C ck_RX9_154 t2_155 (m_X9_isBit l hI h) ⟨⟨rfl, rfl⟩, ⟨Nat.le_of_ble_eq_true rfl, Nat.le_of_ble_eq_true rfl⟩, ⟨Nat.zero_le _, Nat.zero_le _⟩⟩ dX9_gaps_1 rfl rfl (Nat.le_of_ble_eq_true rfl) rfl (fun z1 σ1 h => ?_)
  rw [h.1]
  have h := h.2
  obtain ⟨o2, h⟩ := h
  refine x_if_ne (q := 7) (tgt := 10) C dX9_gaps_4 rfl o2 rfl (fun c3 => ?_) (fun c3 => ?_)
  · have h := h.1 c3
    refine x_iconst (q := 11) (z := 0) C dX9_gaps_10 rfl rfl ?_
    refine x_istore_n (q := 12) (i := 2) (lv' := [(0, .ref (ad 0)), (1, .int (iI a0)), (2, .int (iI 0))]) C dX9_gaps_11 rfl (Nat.le_of_ble_eq_true rfl) [1, 2, 0] rfl rfl ?_
    refine x_bipush (q := 14) (z := (-9)) C dX9_gaps_12 rfl rfl ?_
    refine x_istore_n (q := 15) (i := 3) (lv' := [(0, .ref (ad 0)), (1, .int (iI a0)), (2, .int (iI 0)), (3, .int (iI (-9)))]) C dX9_gaps_14 rfl (Nat.le_of_ble_eq_true rfl) [1, 2, 3, 0] rfl rfl ?_
    refine x_iconst (q := 16) (z := 1) C dX9_gaps_15 rfl rfl ?_
    refine x_istore (q := 18) (i := 4) (lv' := [(0, .ref (ad 0)), (1, .int (iI a0)), (2, .int (iI 0)), (3, .int (iI (-9))), (4, .int (iI 1))]) C dX9_gaps_16 (Nat.le_of_ble_eq_true rfl) [1, 2, 3, 4, 0] rfl rfl ?_
    refine x_aload_n (q := 19) (i := 0) C dX9_gaps_18 rfl 0 rfl rfl ?_
    refine x_getR (q := 22) (c0 := 20) C (Nat.le_of_ble_eq_true rfl) ly_0 fk_RX9_47 rfl dX9_gaps_19 rfl ?_
    refine x_iconst (q := 23) (z := 0) C dX9_gaps_22 rfl rfl ?_
    refine x_virV (q := 26) C (Nat.le_of_ble_eq_true rfl) ly_20 rfl ck_RX9_194 vk_X7_begin (m_X7_begin l hI h) ⟨⟨rfl, rfl⟩, ⟨Nat.le_of_ble_eq_true rfl, Nat.le_of_ble_eq_true rfl⟩, ⟨Nat.zero_le _, Nat.zero_le _⟩⟩ dX9_gaps_23 rfl rfl (Nat.le_of_ble_eq_true rfl) rfl (fun σ4 h => ?_)
    refine x_iconst (q := 27) (z := 0) C dX9_gaps_26 rfl rfl ?_
    refine x_istore (q := 29) (i := 5) (lv' := [(0, .ref (ad 0)), (1, .int (iI a0)), (2, .int (iI 0)), (3, .int (iI (-9))), (4, .int (iI 1)), (5, .int (iI 0))]) C dX9_gaps_27 (Nat.le_of_ble_eq_true rfl) [1, 2, 3, 4, 5, 0] rfl rfl ?_
    obtain ⟨I5, ⟨n05, h05⟩, hs5⟩ := h
    have L5 : ∀ (n5 : Nat) (v2_5 : Int) (v3_5 : Int) (v4_5 : Int) (v5_5 : Int) (σ5 : GS), I5 n5 v2_5 v3_5 v4_5 v5_5 σ5 → V p l e rm_X9_gaps s m args below meth c ad D cI cZ cG (Aw ad) 6 0 0 (MQ below (QI ad D cI cZ cG Post) args s 0 0 (Aw ad)) σ5 29 [(0, .ref (ad 0)), (1, .int (iI a0)), (2, .int (iI v2_5)), (3, .int (iI v3_5)), (4, .int (iI v4_5)), (5, .int (iI v5_5))] [] := by
      intro n5
      induction n5 using Nat.strongRecOn with
      | ind n5 ih5 =>
        intro v2_5 v3_5 v4_5 v5_5 σ5 h
        have h := hs5 n5 v2_5 v3_5 v4_5 v5_5 σ5 h
        refine x_iload (q := 31) C dX9_gaps_29 4 rfl rfl ?_
        obtain ⟨o6, h⟩ := h
        refine x_if_eq (q := 34) (tgt := 88) C dX9_gaps_31 rfl o6 rfl (fun c7 => ?_) (fun c7 => ?_)
        · have h := h.1 c7
          refine x_iload_n (q := 89) (i := 1) C dX9_gaps_88 rfl 1 rfl rfl ?_
          obtain ⟨o8, h⟩ := h
          refine x_if_ne (q := 92) (tgt := 96) C dX9_gaps_89 rfl o8 rfl (fun c9 => ?_) (fun c9 => ?_)
          · have h := h.1 c9
            refine x_iload_n (q := 97) (i := 3) C dX9_gaps_96 rfl 3 rfl rfl ?_
            exact x_iret C dX9_gaps_97 h
          · have h := h.2 c9
            refine x_iload_n (q := 93) (i := 2) C dX9_gaps_92 rfl 2 rfl rfl ?_
            refine x_goto (tgt := 97) C dX9_gaps_93 rfl ?_
            exact x_iret C dX9_gaps_97 h
        · have h := h.2 c7
          refine x_iload (q := 36) C dX9_gaps_34 5 rfl rfl ?_
          refine x_sipush (q := 39) (z := 3125) C dX9_gaps_36 rfl rfl ?_
          obtain ⟨o10, h⟩ := h
          refine x_icmp_ge (q := 42) (tgt := 88) C dX9_gaps_39 rfl ⟨o10, by decide⟩ rfl (fun c11 => ?_) (fun c11 => ?_)
          · have h := h.1 c11
            refine x_iload_n (q := 89) (i := 1) C dX9_gaps_88 rfl 1 rfl rfl ?_
            obtain ⟨o12, h⟩ := h
            refine x_if_ne (q := 92) (tgt := 96) C dX9_gaps_89 rfl o12 rfl (fun c13 => ?_) (fun c13 => ?_)
            · have h := h.1 c13
              refine x_iload_n (q := 97) (i := 3) C dX9_gaps_96 rfl 3 rfl rfl ?_
              exact x_iret C dX9_gaps_97 h
            · have h := h.2 c13
              refine x_iload_n (q := 93) (i := 2) C dX9_gaps_92 rfl 2 rfl rfl ?_
              refine x_goto (tgt := 97) C dX9_gaps_93 rfl ?_
              exact x_iret C dX9_gaps_97 h
          · have h := h.2 c11
            refine x_aload_n (q := 43) (i := 0) C dX9_gaps_42 rfl 0 rfl rfl ?_
            refine x_getR (q := 46) (c0 := 44) C (Nat.le_of_ble_eq_true rfl) ly_0 fk_RX9_75 rfl dX9_gaps_43 rfl ?_
            refine x_aload_n (q := 47) (i := 0) C dX9_gaps_46 rfl 0 rfl rfl ?_
            refine x_getR (q := 50) (c0 := 10) C (Nat.le_of_ble_eq_true rfl) ly_0 fk_RX9_38 rfl dX9_gaps_47 rfl ?_
            refine x_virI (q := 53) C (Nat.le_of_ble_eq_true rfl) ly_44 rfl ck_RX9_234 vk_X5_fits (m_X5_fits l hI h) ⟨⟨rfl, rfl⟩, ⟨Nat.le_of_ble_eq_true rfl, Nat.le_of_ble_eq_true rfl⟩, ⟨Nat.zero_le _, Nat.zero_le _⟩⟩ dX9_gaps_50 rfl rfl (Nat.le_of_ble_eq_true rfl) rfl (fun z14 σ14 h => ?_)
            rw [h.1]
            have h := h.2
            obtain ⟨o15, h⟩ := h
            refine x_if_eq (q := 56) (tgt := 73) C dX9_gaps_53 rfl o15 rfl (fun c16 => ?_) (fun c16 => ?_)
            · have h := h.1 c16
              refine x_aload_n (q := 74) (i := 0) C dX9_gaps_73 rfl 0 rfl rfl ?_
              refine x_getR (q := 77) (c0 := 20) C (Nat.le_of_ble_eq_true rfl) ly_0 fk_RX9_47 rfl dX9_gaps_74 rfl ?_
              refine x_virI (q := 80) C (Nat.le_of_ble_eq_true rfl) ly_20 rfl ck_RX9_209 vk_X7_step (m_X7_step l hI h) ⟨⟨rfl, rfl⟩, ⟨Nat.le_of_ble_eq_true rfl, Nat.le_of_ble_eq_true rfl⟩, ⟨Nat.zero_le _, Nat.zero_le _⟩⟩ dX9_gaps_77 rfl rfl (Nat.le_of_ble_eq_true rfl) rfl (fun z17 σ17 h => ?_)
              refine x_istore (q := 82) (i := 4) (lv' := [(0, .ref (ad 0)), (1, .int (iI a0)), (2, .int (iI v2_5)), (3, .int (iI v3_5)), (4, .int (iI z17)), (5, .int (iI v5_5))]) C dX9_gaps_80 (Nat.le_of_ble_eq_true rfl) [1, 2, 3, 4, 0, 5] rfl rfl ?_
              refine x_iinc (q := 85) (z' := v5_5 + 1) (lv' := [(0, .ref (ad 0)), (1, .int (iI a0)), (2, .int (iI v2_5)), (3, .int (iI v3_5)), (4, .int (iI z17)), (5, .int (iI (v5_5 + 1)))]) C dX9_gaps_82 5 rfl rfl (Nat.le_of_ble_eq_true rfl) [1, 2, 3, 4, 5, 0] rfl rfl ?_
              refine x_goto (tgt := 29) C dX9_gaps_85 rfl ?_
              obtain ⟨n18, hl19, h⟩ := h
              refine x_sub [0, 1, 2, 3, 4, 5] rfl ?_
              exact ih5 n18 hl19 _ _ _ _ _ h
            · have h := h.2 c16
              refine x_iinc (q := 59) (z' := v2_5 + 1) (lv' := [(0, .ref (ad 0)), (1, .int (iI a0)), (2, .int (iI (v2_5 + 1))), (3, .int (iI v3_5)), (4, .int (iI v4_5)), (5, .int (iI v5_5))]) C dX9_gaps_56 2 rfl rfl (Nat.le_of_ble_eq_true rfl) [1, 2, 0, 3, 4, 5] rfl rfl ?_
              refine x_iload_n (q := 60) (i := 3) C dX9_gaps_59 rfl 3 rfl rfl ?_
              refine x_bipush (q := 62) (z := (-9)) C dX9_gaps_60 rfl rfl ?_
              obtain ⟨o20, h⟩ := h
              refine x_icmp_ne (q := 65) (tgt := 73) C dX9_gaps_62 rfl ⟨o20, by decide⟩ rfl (fun c21 => ?_) (fun c21 => ?_)
              · have h := h.1 c21
                refine x_aload_n (q := 74) (i := 0) C dX9_gaps_73 rfl 0 rfl rfl ?_
                refine x_getR (q := 77) (c0 := 20) C (Nat.le_of_ble_eq_true rfl) ly_0 fk_RX9_47 rfl dX9_gaps_74 rfl ?_
                refine x_virI (q := 80) C (Nat.le_of_ble_eq_true rfl) ly_20 rfl ck_RX9_209 vk_X7_step (m_X7_step l hI h) ⟨⟨rfl, rfl⟩, ⟨Nat.le_of_ble_eq_true rfl, Nat.le_of_ble_eq_true rfl⟩, ⟨Nat.zero_le _, Nat.zero_le _⟩⟩ dX9_gaps_77 rfl rfl (Nat.le_of_ble_eq_true rfl) rfl (fun z22 σ22 h => ?_)
                refine x_istore (q := 82) (i := 4) (lv' := [(0, .ref (ad 0)), (1, .int (iI a0)), (2, .int (iI (v2_5 + 1))), (3, .int (iI v3_5)), (4, .int (iI z22)), (5, .int (iI v5_5))]) C dX9_gaps_80 (Nat.le_of_ble_eq_true rfl) [1, 2, 3, 4, 0, 5] rfl rfl ?_
                refine x_iinc (q := 85) (z' := v5_5 + 1) (lv' := [(0, .ref (ad 0)), (1, .int (iI a0)), (2, .int (iI (v2_5 + 1))), (3, .int (iI v3_5)), (4, .int (iI z22)), (5, .int (iI (v5_5 + 1)))]) C dX9_gaps_82 5 rfl rfl (Nat.le_of_ble_eq_true rfl) [1, 2, 3, 4, 5, 0] rfl rfl ?_
                refine x_goto (tgt := 29) C dX9_gaps_85 rfl ?_
                obtain ⟨n23, hl24, h⟩ := h
                refine x_sub [0, 1, 2, 3, 4, 5] rfl ?_
                exact ih5 n23 hl24 _ _ _ _ _ h
              · have h := h.2 c21
                refine x_aload_n (q := 66) (i := 0) C dX9_gaps_65 rfl 0 rfl rfl ?_
                refine x_getR (q := 69) (c0 := 8) C (Nat.le_of_ble_eq_true rfl) ly_0 fk_RX9_32 rfl dX9_gaps_66 rfl ?_
                refine x_virI (q := 72) C (Nat.le_of_ble_eq_true rfl) ly_8 rfl ck_RX9_206 vk_X2_figures (m_X2_figures l hI h) ⟨⟨rfl, rfl⟩, ⟨Nat.le_of_ble_eq_true rfl, Nat.le_of_ble_eq_true rfl⟩, ⟨Nat.zero_le _, Nat.zero_le _⟩⟩ dX9_gaps_69 rfl rfl (Nat.le_of_ble_eq_true rfl) rfl (fun z25 σ25 h => ?_)
                rw [h.1]
                have h := h.2
                refine x_istore_n (q := 73) (i := 3) (lv' := [(0, .ref (ad 0)), (1, .int (iI a0)), (2, .int (iI (v2_5 + 1))), (3, .int (iI z25)), (4, .int (iI v4_5)), (5, .int (iI v5_5))]) C dX9_gaps_72 rfl (Nat.le_of_ble_eq_true rfl) [1, 2, 3, 0, 4, 5] rfl rfl ?_
                refine x_aload_n (q := 74) (i := 0) C dX9_gaps_73 rfl 0 rfl rfl ?_
                refine x_getR (q := 77) (c0 := 20) C (Nat.le_of_ble_eq_true rfl) ly_0 fk_RX9_47 rfl dX9_gaps_74 rfl ?_
                refine x_virI (q := 80) C (Nat.le_of_ble_eq_true rfl) ly_20 rfl ck_RX9_209 vk_X7_step (m_X7_step l hI h) ⟨⟨rfl, rfl⟩, ⟨Nat.le_of_ble_eq_true rfl, Nat.le_of_ble_eq_true rfl⟩, ⟨Nat.zero_le _, Nat.zero_le _⟩⟩ dX9_gaps_77 rfl rfl (Nat.le_of_ble_eq_true rfl) rfl (fun z26 σ26 h => ?_)
                refine x_istore (q := 82) (i := 4) (lv' := [(0, .ref (ad 0)), (1, .int (iI a0)), (2, .int (iI (v2_5 + 1))), (3, .int (iI z25)), (4, .int (iI z26)), (5, .int (iI v5_5))]) C dX9_gaps_80 (Nat.le_of_ble_eq_true rfl) [1, 2, 3, 4, 0, 5] rfl rfl ?_
                refine x_iinc (q := 85) (z' := v5_5 + 1) (lv' := [(0, .ref (ad 0)), (1, .int (iI a0)), (2, .int (iI (v2_5 + 1))), (3, .int (iI z25)), (4, .int (iI z26)), (5, .int (iI (v5_5 + 1)))]) C dX9_gaps_82 5 rfl rfl (Nat.le_of_ble_eq_true rfl) [1, 2, 3, 4, 5, 0] rfl rfl ?_
                refine x_goto (tgt := 29) C dX9_gaps_85 rfl ?_
                obtain ⟨n27, hl28, h⟩ := h
                refine x_sub [0, 1, 2, 3, 4, 5] rfl ?_
                exact ih5 n27 hl28 _ _ _ _ _ h
    exact L5 n05 0 (-9) 1 0 σ4 h05
  · have h := h.2 c3
    refine x_bipush (q := 9) (z := (-2)) C dX9_gaps_7 rfl rfl ?_
    exact x_iret C dX9_gaps_9 h
abbrev rm_X9_shareOfPlace : Room := { frames := 1, cells := 0, slots := 0, locals := 23 }
def vc_X9_shareOfPlace (σ : GS) (a0 : Int) (Post : Int → Prop) : Prop :=
  ∃ I1 : Nat → Int → Int → Prop, (∃ n : Nat, I1 n 0 0) ∧ ∀ (n1 : Nat) (v2_1 : Int) (v3_1 : Int), I1 n1 v2_1 v3_1 →
  (vc_X1_size σ  (fun (z2 : Int) =>
        (rg v3_1) ∧
      ((rg z2) ∧
      ((z2 ≤ v3_1 →
        ((rg v2_1) ∧
        ((¬ v2_1 = 0 →
          ((0 < v2_1 ∧ v2_1 ≤ 2147483647) ∧
          (Post (60 / v2_1)))) ∧
        (v2_1 = 0 →
          (Post 0))))) ∧
      (¬ z2 ≤ v3_1 →
        (vc_X2_sumAhead σ 6 v3_1 (fun (z9 : Int) =>
          vc_X1_isSolid σ v3_1 (a0 - z9) (fun (z10 : Int) =>
          (rg z10) ∧
        ((z10 = 0 →
          (∃ n' : Nat, n' < n1 ∧ I1 n' v2_1 (v3_1 + 1))) ∧
        (¬ z10 = 0 →
          (∃ n' : Nat, n' < n1 ∧ I1 n' (v2_1 + 1) (v3_1 + 1))))))))))))
set_option maxHeartbeats 4000000 in
set_option maxRecDepth 10000 in
theorem m_X9_shareOfPlace (l : Launch) {ad : Nat → Nat} {D : va_G} {cI cZ cG : ClassId} (hI : Ij ad) {σ : GS} {a0 : Int} {Post : Int → Prop} (h : vc_X9_shareOfPlace σ a0 Post) : Met l yX9_shareOfPlace (wX yX9_shareOfPlace cX9_shareOfPlace 4 (some .int)) rm_X9_shareOfPlace (va_Pc [.ref (ad 0), .int (iI a0)] (Wd ad D cI cZ cG σ)) (QI ad D cI cZ cG (fun z u => u = σ ∧ Post z)) 0 0 (Aw ad) := by
  refine met_V (own := RX9) hI (by decide +kernel) rfl (Nat.le_of_ble_eq_true rfl) ?_
  intro p e s m args below meth c C
  unfold vc_X9_shareOfPlace at h
  show V p l e rm_X9_shareOfPlace s m args below meth c ad D cI cZ cG (Aw ad) 4 0 0 (MQ below (QI ad D cI cZ cG (fun z u => u = σ ∧ Post z)) args s 0 0 (Aw ad)) σ 0 [(0, .ref (ad 0)), (1, .int (iI a0))] []
  refine x_iconst (q := 1) (z := 0) C dX9_shareOfPlace_0 rfl rfl ?_
  refine x_istore_n (q := 2) (i := 2) (lv' := [(0, .ref (ad 0)), (1, .int (iI a0)), (2, .int (iI 0))]) C dX9_shareOfPlace_1 rfl (Nat.le_of_ble_eq_true rfl) [1, 2, 0] rfl rfl ?_
  refine x_iconst (q := 3) (z := 0) C dX9_shareOfPlace_2 rfl rfl ?_
  refine x_istore_n (q := 4) (i := 3) (lv' := [(0, .ref (ad 0)), (1, .int (iI a0)), (2, .int (iI 0)), (3, .int (iI 0))]) C dX9_shareOfPlace_3 rfl (Nat.le_of_ble_eq_true rfl) [1, 2, 3, 0] rfl rfl ?_
  obtain ⟨I1, ⟨n01, h01⟩, hs1⟩ := h
  have L1 : ∀ (n1 : Nat) (v2_1 : Int) (v3_1 : Int), I1 n1 v2_1 v3_1 → V p l e rm_X9_shareOfPlace s m args below meth c ad D cI cZ cG (Aw ad) 4 0 0 (MQ below (QI ad D cI cZ cG (fun z u => u = σ ∧ Post z)) args s 0 0 (Aw ad)) σ 4 [(0, .ref (ad 0)), (1, .int (iI a0)), (2, .int (iI v2_1)), (3, .int (iI v3_1))] [] := by
    intro n1
    induction n1 using Nat.strongRecOn with
    | ind n1 ih1 =>
      intro v2_1 v3_1 h
      have h := hs1 n1 v2_1 v3_1 h
      refine x_iload_n (q := 5) (i := 3) C dX9_shareOfPlace_4 rfl 3 rfl rfl ?_
      refine x_aload_n (q := 6) (i := 0) C dX9_shareOfPlace_5 rfl 0 rfl rfl ?_
      refine x_getR (q := 9) (c0 := 3) C (Nat.le_of_ble_eq_true rfl) ly_0 fk_RX9_19 rfl dX9_shareOfPlace_6 rfl ?_
      refine x_virI (q := 12) C (Nat.le_of_ble_eq_true rfl) ly_3 rfl ck_RX9_110 vk_X1_size (m_X1_size l hI h) ⟨⟨rfl, rfl⟩, ⟨Nat.le_of_ble_eq_true rfl, Nat.le_of_ble_eq_true rfl⟩, ⟨Nat.zero_le _, Nat.zero_le _⟩⟩ dX9_shareOfPlace_9 rfl rfl (Nat.le_of_ble_eq_true rfl) rfl (fun z2 σ2 h => ?_)
      rw [h.1]
      have h := h.2
      obtain ⟨o3, h⟩ := h
      obtain ⟨o4, h⟩ := h
      refine x_icmp_ge (q := 15) (tgt := 45) C dX9_shareOfPlace_12 rfl ⟨o3, o4⟩ rfl (fun c5 => ?_) (fun c5 => ?_)
      · have h := h.1 c5
        refine x_iload_n (q := 46) (i := 2) C dX9_shareOfPlace_45 rfl 2 rfl rfl ?_
        obtain ⟨o6, h⟩ := h
        refine x_if_ne (q := 49) (tgt := 53) C dX9_shareOfPlace_46 rfl o6 rfl (fun c7 => ?_) (fun c7 => ?_)
        · have h := h.1 c7
          refine x_bipush (q := 55) (z := 60) C dX9_shareOfPlace_53 rfl rfl ?_
          refine x_iload_n (q := 56) (i := 2) C dX9_shareOfPlace_55 rfl 2 rfl rfl ?_
          obtain ⟨o8, h⟩ := h
          refine x_idiv (q := 57) C dX9_shareOfPlace_56 ⟨by decide, o8⟩ rfl ?_
          exact x_iret C dX9_shareOfPlace_57 ⟨rfl, h⟩
        · have h := h.2 c7
          refine x_iconst (q := 50) (z := 0) C dX9_shareOfPlace_49 rfl rfl ?_
          refine x_goto (tgt := 57) C dX9_shareOfPlace_50 rfl ?_
          exact x_iret C dX9_shareOfPlace_57 ⟨rfl, h⟩
      · have h := h.2 c5
        refine x_aload_n (q := 16) (i := 0) C dX9_shareOfPlace_15 rfl 0 rfl rfl ?_
        refine x_getR (q := 19) (c0 := 3) C (Nat.le_of_ble_eq_true rfl) ly_0 fk_RX9_19 rfl dX9_shareOfPlace_16 rfl ?_
        refine x_iload_n (q := 20) (i := 3) C dX9_shareOfPlace_19 rfl 3 rfl rfl ?_
        refine x_iload_n (q := 21) (i := 1) C dX9_shareOfPlace_20 rfl 1 rfl rfl ?_
        refine x_aload_n (q := 22) (i := 0) C dX9_shareOfPlace_21 rfl 0 rfl rfl ?_
        refine x_getR (q := 25) (c0 := 6) C (Nat.le_of_ble_eq_true rfl) ly_0 fk_RX9_28 rfl dX9_shareOfPlace_22 rfl ?_
        refine x_iload_n (q := 26) (i := 3) C dX9_shareOfPlace_25 rfl 3 rfl rfl ?_
        refine x_virI (q := 29) C (Nat.le_of_ble_eq_true rfl) ly_6 rfl ck_RX9_132 vk_X2_sumAhead (m_X2_sumAhead l hI h) ⟨⟨rfl, rfl⟩, ⟨Nat.le_of_ble_eq_true rfl, Nat.le_of_ble_eq_true rfl⟩, ⟨Nat.zero_le _, Nat.zero_le _⟩⟩ dX9_shareOfPlace_26 rfl rfl (Nat.le_of_ble_eq_true rfl) rfl (fun z9 σ9 h => ?_)
        rw [h.1]
        have h := h.2
        refine x_isub (q := 30) C dX9_shareOfPlace_29  rfl ?_
        refine x_virI (q := 33) C (Nat.le_of_ble_eq_true rfl) ly_3 rfl ck_RX9_237 vk_X1_isSolid (m_X1_isSolid l hI h) ⟨⟨rfl, rfl⟩, ⟨Nat.le_of_ble_eq_true rfl, Nat.le_of_ble_eq_true rfl⟩, ⟨Nat.zero_le _, Nat.zero_le _⟩⟩ dX9_shareOfPlace_30 rfl rfl (Nat.le_of_ble_eq_true rfl) rfl (fun z10 σ10 h => ?_)
        rw [h.1]
        have h := h.2
        obtain ⟨o11, h⟩ := h
        refine x_if_eq (q := 36) (tgt := 39) C dX9_shareOfPlace_33 rfl o11 rfl (fun c12 => ?_) (fun c12 => ?_)
        · have h := h.1 c12
          refine x_iinc (q := 42) (z' := v3_1 + 1) (lv' := [(0, .ref (ad 0)), (1, .int (iI a0)), (2, .int (iI v2_1)), (3, .int (iI (v3_1 + 1)))]) C dX9_shareOfPlace_39 3 rfl rfl (Nat.le_of_ble_eq_true rfl) [1, 2, 3, 0] rfl rfl ?_
          refine x_goto (tgt := 4) C dX9_shareOfPlace_42 rfl ?_
          obtain ⟨n13, hl14, h⟩ := h
          refine x_sub [0, 1, 2, 3] rfl ?_
          exact ih1 n13 hl14 _ _ h
        · have h := h.2 c12
          refine x_iinc (q := 39) (z' := v2_1 + 1) (lv' := [(0, .ref (ad 0)), (1, .int (iI a0)), (2, .int (iI (v2_1 + 1))), (3, .int (iI v3_1))]) C dX9_shareOfPlace_36 2 rfl rfl (Nat.le_of_ble_eq_true rfl) [1, 2, 0, 3] rfl rfl ?_
          refine x_iinc (q := 42) (z' := v3_1 + 1) (lv' := [(0, .ref (ad 0)), (1, .int (iI a0)), (2, .int (iI (v2_1 + 1))), (3, .int (iI (v3_1 + 1)))]) C dX9_shareOfPlace_39 3 rfl rfl (Nat.le_of_ble_eq_true rfl) [1, 2, 3, 0] rfl rfl ?_
          refine x_goto (tgt := 4) C dX9_shareOfPlace_42 rfl ?_
          obtain ⟨n15, hl16, h⟩ := h
          refine x_sub [0, 1, 2, 3] rfl ?_
          exact ih1 n15 hl16 _ _ h
  exact L1 n01 0 0 h01
abbrev rm_X9_greatestShared : Room := { frames := 0, cells := 0, slots := 0, locals := 0 }
def vc_X9_greatestShared (σ : GS) (a0 : Int) (a1 : Int) (Post : Int → Prop) : Prop :=
  ∃ I1 : Nat → Int → Int → Int → Prop, (∃ n : Nat, I1 n a0 a1 0) ∧ ∀ (n1 : Nat) (v2_1 : Int) (v3_1 : Int) (v4_1 : Int), I1 n1 v2_1 v3_1 v4_1 →
  ((rg v4_1) ∧
      (((64 : Int) ≤ v4_1 →
        (Post v2_1)) ∧
      (¬ (64 : Int) ≤ v4_1 →
        ((rg v3_1) ∧
        ((v3_1 = 0 →
          (Post v2_1)) ∧
        (¬ v3_1 = 0 →
          (((0 ≤ v2_1 ∧ v2_1 ≤ 2147483647) ∧ (0 < v3_1 ∧ v3_1 ≤ 2147483647)) ∧
          (∃ n' : Nat, n' < n1 ∧ I1 n' v3_1 (v2_1 % v3_1) (v4_1 + 1)))))))))
set_option maxHeartbeats 4000000 in
set_option maxRecDepth 10000 in
theorem m_X9_greatestShared (l : Launch) {ad : Nat → Nat} {D : va_G} {cI cZ cG : ClassId} (hI : Ij ad) {σ : GS} {a0 : Int} {a1 : Int} {Post : Int → Prop} (h : vc_X9_greatestShared σ a0 a1 Post) : Met l yX9_greatestShared (wX yX9_greatestShared cX9_greatestShared 6 (some .int)) rm_X9_greatestShared (va_Pc [.int (iI a0), .int (iI a1)] (Wd ad D cI cZ cG σ)) (QI ad D cI cZ cG (fun z u => u = σ ∧ Post z)) 0 0 (Aw ad) := by
  refine met_V (own := RX9) hI (by decide +kernel) rfl (Nat.le_of_ble_eq_true rfl) ?_
  intro p e s m args below meth c C
  unfold vc_X9_greatestShared at h
  show V p l e rm_X9_greatestShared s m args below meth c ad D cI cZ cG (Aw ad) 6 0 0 (MQ below (QI ad D cI cZ cG (fun z u => u = σ ∧ Post z)) args s 0 0 (Aw ad)) σ 0 [(0, .int (iI a0)), (1, .int (iI a1))] []
  refine x_iload_n (q := 1) (i := 0) C dX9_greatestShared_0 rfl 0 rfl rfl ?_
  refine x_istore_n (q := 2) (i := 2) (lv' := [(0, .int (iI a0)), (1, .int (iI a1)), (2, .int (iI a0))]) C dX9_greatestShared_1 rfl (Nat.le_of_ble_eq_true rfl) [1, 2, 0] rfl rfl ?_
  refine x_iload_n (q := 3) (i := 1) C dX9_greatestShared_2 rfl 1 rfl rfl ?_
  refine x_istore_n (q := 4) (i := 3) (lv' := [(0, .int (iI a0)), (1, .int (iI a1)), (2, .int (iI a0)), (3, .int (iI a1))]) C dX9_greatestShared_3 rfl (Nat.le_of_ble_eq_true rfl) [1, 2, 3, 0] rfl rfl ?_
  refine x_iconst (q := 5) (z := 0) C dX9_greatestShared_4 rfl rfl ?_
  refine x_istore (q := 7) (i := 4) (lv' := [(0, .int (iI a0)), (1, .int (iI a1)), (2, .int (iI a0)), (3, .int (iI a1)), (4, .int (iI 0))]) C dX9_greatestShared_5 (Nat.le_of_ble_eq_true rfl) [1, 2, 3, 4, 0] rfl rfl ?_
  obtain ⟨I1, ⟨n01, h01⟩, hs1⟩ := h
  have L1 : ∀ (n1 : Nat) (v2_1 : Int) (v3_1 : Int) (v4_1 : Int), I1 n1 v2_1 v3_1 v4_1 → V p l e rm_X9_greatestShared s m args below meth c ad D cI cZ cG (Aw ad) 6 0 0 (MQ below (QI ad D cI cZ cG (fun z u => u = σ ∧ Post z)) args s 0 0 (Aw ad)) σ 7 [(0, .int (iI a0)), (1, .int (iI a1)), (2, .int (iI v2_1)), (3, .int (iI v3_1)), (4, .int (iI v4_1))] [] := by
    intro n1
    induction n1 using Nat.strongRecOn with
    | ind n1 ih1 =>
      intro v2_1 v3_1 v4_1 h
      have h := hs1 n1 v2_1 v3_1 v4_1 h
      refine x_iload (q := 9) C dX9_greatestShared_7 4 rfl rfl ?_
      refine x_bipush (q := 11) (z := 64) C dX9_greatestShared_9 rfl rfl ?_
      obtain ⟨o2, h⟩ := h
      refine x_icmp_ge (q := 14) (tgt := 34) C dX9_greatestShared_11 rfl ⟨o2, by decide⟩ rfl (fun c3 => ?_) (fun c3 => ?_)
      · have h := h.1 c3
        refine x_iload_n (q := 35) (i := 2) C dX9_greatestShared_34 rfl 2 rfl rfl ?_
        exact x_iret C dX9_greatestShared_35 ⟨rfl, h⟩
      · have h := h.2 c3
        refine x_iload_n (q := 15) (i := 3) C dX9_greatestShared_14 rfl 3 rfl rfl ?_
        obtain ⟨o4, h⟩ := h
        refine x_if_eq (q := 18) (tgt := 34) C dX9_greatestShared_15 rfl o4 rfl (fun c5 => ?_) (fun c5 => ?_)
        · have h := h.1 c5
          refine x_iload_n (q := 35) (i := 2) C dX9_greatestShared_34 rfl 2 rfl rfl ?_
          exact x_iret C dX9_greatestShared_35 ⟨rfl, h⟩
        · have h := h.2 c5
          refine x_iload_n (q := 19) (i := 2) C dX9_greatestShared_18 rfl 2 rfl rfl ?_
          refine x_iload_n (q := 20) (i := 3) C dX9_greatestShared_19 rfl 3 rfl rfl ?_
          obtain ⟨o6, h⟩ := h
          refine x_irem (q := 21) C dX9_greatestShared_20 o6 rfl ?_
          refine x_istore (q := 23) (i := 5) (lv' := [(0, .int (iI a0)), (1, .int (iI a1)), (2, .int (iI v2_1)), (3, .int (iI v3_1)), (4, .int (iI v4_1)), (5, .int (iI (v2_1 % v3_1)))]) C dX9_greatestShared_21 (Nat.le_of_ble_eq_true rfl) [1, 2, 3, 4, 5, 0] rfl rfl ?_
          refine x_iload_n (q := 24) (i := 3) C dX9_greatestShared_23 rfl 3 rfl rfl ?_
          refine x_istore_n (q := 25) (i := 2) (lv' := [(0, .int (iI a0)), (1, .int (iI a1)), (2, .int (iI v3_1)), (3, .int (iI v3_1)), (4, .int (iI v4_1)), (5, .int (iI (v2_1 % v3_1)))]) C dX9_greatestShared_24 rfl (Nat.le_of_ble_eq_true rfl) [1, 2, 0, 3, 4, 5] rfl rfl ?_
          refine x_iload (q := 27) C dX9_greatestShared_25 5 rfl rfl ?_
          refine x_istore_n (q := 28) (i := 3) (lv' := [(0, .int (iI a0)), (1, .int (iI a1)), (2, .int (iI v3_1)), (3, .int (iI (v2_1 % v3_1))), (4, .int (iI v4_1)), (5, .int (iI (v2_1 % v3_1)))]) C dX9_greatestShared_27 rfl (Nat.le_of_ble_eq_true rfl) [1, 2, 3, 0, 4, 5] rfl rfl ?_
          refine x_iinc (q := 31) (z' := v4_1 + 1) (lv' := [(0, .int (iI a0)), (1, .int (iI a1)), (2, .int (iI v3_1)), (3, .int (iI (v2_1 % v3_1))), (4, .int (iI (v4_1 + 1))), (5, .int (iI (v2_1 % v3_1)))]) C dX9_greatestShared_28 4 rfl rfl (Nat.le_of_ble_eq_true rfl) [1, 2, 3, 4, 0, 5] rfl rfl ?_
          refine x_goto (tgt := 7) C dX9_greatestShared_31 rfl ?_
          obtain ⟨n7, hl8, h⟩ := h
          refine x_sub [0, 1, 2, 3, 4] rfl ?_
          exact ih1 n7 hl8 _ _ _ h
  exact L1 n01 a0 a1 0 h01
abbrev rm_X9_fraction : Room := { frames := 1, cells := 0, slots := 0, locals := 25 }
def vc_X9_fraction (σ : GS) (a0 : Int) (a1 : Int) (a2 : Int) (Post : Int → Prop) : Prop :=
  vc_X9_greatestShared σ a0 a1 (fun (z1 : Int) =>
    (rg z1) ∧
  ((¬ z1 = 0 →
    ((rg a2) ∧
    ((a2 = 0 →
      (((0 ≤ a1 ∧ a1 ≤ 2147483647) ∧ (0 < z1 ∧ z1 ≤ 2147483647)) ∧
      (Post (a1 / z1)))) ∧
    (¬ a2 = 0 →
      (((0 ≤ a0 ∧ a0 ≤ 2147483647) ∧ (0 < z1 ∧ z1 ≤ 2147483647)) ∧
      (Post (a0 / z1))))))) ∧
  (z1 = 0 →
    ((rg a2) ∧
    ((a2 = 0 →
      (Post a1)) ∧
    (¬ a2 = 0 →
      (Post a0)))))))
set_option maxHeartbeats 4000000 in
set_option maxRecDepth 10000 in
theorem m_X9_fraction (l : Launch) {ad : Nat → Nat} {D : va_G} {cI cZ cG : ClassId} (hI : Ij ad) {σ : GS} {a0 : Int} {a1 : Int} {a2 : Int} {Post : Int → Prop} (h : vc_X9_fraction σ a0 a1 a2 Post) : Met l yX9_fraction (wX yX9_fraction cX9_fraction 4 (some .int)) rm_X9_fraction (va_Pc [.int (iI a0), .int (iI a1), .int (iI a2)] (Wd ad D cI cZ cG σ)) (QI ad D cI cZ cG (fun z u => u = σ ∧ Post z)) 0 0 (Aw ad) := by
  refine met_V (own := RX9) hI (by decide +kernel) rfl (Nat.le_of_ble_eq_true rfl) ?_
  intro p e s m args below meth c C
  unfold vc_X9_fraction at h
  show V p l e rm_X9_fraction s m args below meth c ad D cI cZ cG (Aw ad) 4 0 0 (MQ below (QI ad D cI cZ cG (fun z u => u = σ ∧ Post z)) args s 0 0 (Aw ad)) σ 0 [(0, .int (iI a0)), (1, .int (iI a1)), (2, .int (iI a2))] []
  refine x_iload_n (q := 1) (i := 0) C dX9_fraction_0 rfl 0 rfl rfl ?_
  refine x_iload_n (q := 2) (i := 1) C dX9_fraction_1 rfl 1 rfl rfl ?_
  refine x_staI (q := 5) C ck_RX9_297 t3_129 (m_X9_greatestShared l hI h) ⟨⟨rfl, rfl⟩, ⟨Nat.le_of_ble_eq_true rfl, Nat.le_of_ble_eq_true rfl⟩, ⟨Nat.zero_le _, Nat.zero_le _⟩⟩ dX9_fraction_2 rfl rfl (Nat.le_of_ble_eq_true rfl) rfl (fun z1 σ1 h => ?_)
  rw [h.1]
  have h := h.2
  refine x_istore_n (q := 6) (i := 3) (lv' := [(0, .int (iI a0)), (1, .int (iI a1)), (2, .int (iI a2)), (3, .int (iI z1))]) C dX9_fraction_5 rfl (Nat.le_of_ble_eq_true rfl) [1, 2, 3, 0] rfl rfl ?_
  refine x_iload_n (q := 7) (i := 3) C dX9_fraction_6 rfl 3 rfl rfl ?_
  obtain ⟨o2, h⟩ := h
  refine x_if_ne (q := 10) (tgt := 20) C dX9_fraction_7 rfl o2 rfl (fun c3 => ?_) (fun c3 => ?_)
  · have h := h.1 c3
    refine x_iload_n (q := 21) (i := 2) C dX9_fraction_20 rfl 2 rfl rfl ?_
    obtain ⟨o4, h⟩ := h
    refine x_if_eq (q := 24) (tgt := 30) C dX9_fraction_21 rfl o4 rfl (fun c5 => ?_) (fun c5 => ?_)
    · have h := h.1 c5
      refine x_iload_n (q := 31) (i := 1) C dX9_fraction_30 rfl 1 rfl rfl ?_
      refine x_iload_n (q := 32) (i := 3) C dX9_fraction_31 rfl 3 rfl rfl ?_
      obtain ⟨o6, h⟩ := h
      refine x_idiv (q := 33) C dX9_fraction_32 o6 rfl ?_
      exact x_iret C dX9_fraction_33 ⟨rfl, h⟩
    · have h := h.2 c5
      refine x_iload_n (q := 25) (i := 0) C dX9_fraction_24 rfl 0 rfl rfl ?_
      refine x_iload_n (q := 26) (i := 3) C dX9_fraction_25 rfl 3 rfl rfl ?_
      obtain ⟨o7, h⟩ := h
      refine x_idiv (q := 27) C dX9_fraction_26 o7 rfl ?_
      refine x_goto (tgt := 33) C dX9_fraction_27 rfl ?_
      exact x_iret C dX9_fraction_33 ⟨rfl, h⟩
  · have h := h.2 c3
    refine x_iload_n (q := 11) (i := 2) C dX9_fraction_10 rfl 2 rfl rfl ?_
    obtain ⟨o8, h⟩ := h
    refine x_if_eq (q := 14) (tgt := 18) C dX9_fraction_11 rfl o8 rfl (fun c9 => ?_) (fun c9 => ?_)
    · have h := h.1 c9
      refine x_iload_n (q := 19) (i := 1) C dX9_fraction_18 rfl 1 rfl rfl ?_
      exact x_iret C dX9_fraction_19 ⟨rfl, h⟩
    · have h := h.2 c9
      refine x_iload_n (q := 15) (i := 0) C dX9_fraction_14 rfl 0 rfl rfl ?_
      refine x_goto (tgt := 19) C dX9_fraction_15 rfl ?_
      exact x_iret C dX9_fraction_19 ⟨rfl, h⟩
abbrev rm_X9_share : Room := { frames := 2, cells := 0, slots := 0, locals := 48 }
def vc_X9_share (σ : GS) (a0 : Int) (a1 : Int) (Post : Int → Prop) : Prop :=
  vc_X1_has σ a0 (fun (z1 : Int) =>
    (rg z1) ∧
  ((¬ z1 = 0 →
    (vc_X2_sumAhead σ 6 a0 (fun (z4 : Int) =>
      ∃ I5 : Nat → Int → Int → Prop, (∃ n : Nat, I5 n 0 0) ∧ ∀ (n5 : Nat) (v3_5 : Int) (v5_5 : Int), I5 n5 v3_5 v5_5 →
    ((rg v5_5) ∧
        (((4 : Int) ≤ v5_5 →
          (vc_X9_fraction σ v3_5 60 a1 (fun (z8 : Int) =>
            Post z8))) ∧
        (¬ (4 : Int) ≤ v5_5 →
          (vc_X1_isSolid σ a0 v5_5 (fun (z9 : Int) =>
            (rg z9) ∧
          ((z9 = 0 →
            (∃ n' : Nat, n' < n5 ∧ I5 n' v3_5 (v5_5 + 1))) ∧
          (¬ z9 = 0 →
            (vc_X9_shareOfPlace σ (z4 + v5_5) (fun (z14 : Int) =>
              ∃ n' : Nat, n' < n5 ∧ I5 n' (v3_5 + z14) (v5_5 + 1))))))))))))) ∧
  (z1 = 0 →
    (Post (-1)))))
set_option maxHeartbeats 4000000 in
set_option maxRecDepth 10000 in
theorem m_X9_share (l : Launch) {ad : Nat → Nat} {D : va_G} {cI cZ cG : ClassId} (hI : Ij ad) {σ : GS} {a0 : Int} {a1 : Int} {Post : Int → Prop} (h : vc_X9_share σ a0 a1 Post) : Met l yX9_share (wX yX9_share cX9_share 6 (some .int)) rm_X9_share (va_Pc [.ref (ad 0), .int (iI a0), .int (iI a1)] (Wd ad D cI cZ cG σ)) (QI ad D cI cZ cG (fun z u => u = σ ∧ Post z)) 0 0 (Aw ad) := by
  refine met_V (own := RX9) hI (by decide +kernel) rfl (Nat.le_of_ble_eq_true rfl) ?_
  intro p e s m args below meth c C
  unfold vc_X9_share at h
  show V p l e rm_X9_share s m args below meth c ad D cI cZ cG (Aw ad) 6 0 0 (MQ below (QI ad D cI cZ cG (fun z u => u = σ ∧ Post z)) args s 0 0 (Aw ad)) σ 0 [(0, .ref (ad 0)), (1, .int (iI a0)), (2, .int (iI a1))] []
  refine x_aload_n (q := 1) (i := 0) C dX9_share_0 rfl 0 rfl rfl ?_
  refine x_getR (q := 4) (c0 := 3) C (Nat.le_of_ble_eq_true rfl) ly_0 fk_RX9_19 rfl dX9_share_1 rfl ?_
  refine x_iload_n (q := 5) (i := 1) C dX9_share_4 rfl 1 rfl rfl ?_
  refine x_virI (q := 8) C (Nat.le_of_ble_eq_true rfl) ly_3 rfl ck_RX9_125 vk_X1_has (m_X1_has l hI h) ⟨⟨rfl, rfl⟩, ⟨Nat.le_of_ble_eq_true rfl, Nat.le_of_ble_eq_true rfl⟩, ⟨Nat.zero_le _, Nat.zero_le _⟩⟩ dX9_share_5 rfl rfl (Nat.le_of_ble_eq_true rfl) rfl (fun z1 σ1 h => ?_)
  rw [h.1]
  have h := h.2
  obtain ⟨o2, h⟩ := h
  refine x_if_ne (q := 11) (tgt := 13) C dX9_share_8 rfl o2 rfl (fun c3 => ?_) (fun c3 => ?_)
  · have h := h.1 c3
    refine x_iconst (q := 14) (z := 0) C dX9_share_13 rfl rfl ?_
    refine x_istore_n (q := 15) (i := 3) (lv' := [(0, .ref (ad 0)), (1, .int (iI a0)), (2, .int (iI a1)), (3, .int (iI 0))]) C dX9_share_14 rfl (Nat.le_of_ble_eq_true rfl) [1, 2, 3, 0] rfl rfl ?_
    refine x_aload_n (q := 16) (i := 0) C dX9_share_15 rfl 0 rfl rfl ?_
    refine x_getR (q := 19) (c0 := 6) C (Nat.le_of_ble_eq_true rfl) ly_0 fk_RX9_28 rfl dX9_share_16 rfl ?_
    refine x_iload_n (q := 20) (i := 1) C dX9_share_19 rfl 1 rfl rfl ?_
    refine x_virI (q := 23) C (Nat.le_of_ble_eq_true rfl) ly_6 rfl ck_RX9_132 vk_X2_sumAhead (m_X2_sumAhead l hI h) ⟨⟨rfl, rfl⟩, ⟨Nat.le_of_ble_eq_true rfl, Nat.le_of_ble_eq_true rfl⟩, ⟨Nat.zero_le _, Nat.zero_le _⟩⟩ dX9_share_20 rfl rfl (Nat.le_of_ble_eq_true rfl) rfl (fun z4 σ4 h => ?_)
    rw [h.1]
    have h := h.2
    refine x_istore (q := 25) (i := 4) (lv' := [(0, .ref (ad 0)), (1, .int (iI a0)), (2, .int (iI a1)), (3, .int (iI 0)), (4, .int (iI z4))]) C dX9_share_23 (Nat.le_of_ble_eq_true rfl) [1, 2, 3, 4, 0] rfl rfl ?_
    refine x_iconst (q := 26) (z := 0) C dX9_share_25 rfl rfl ?_
    refine x_istore (q := 28) (i := 5) (lv' := [(0, .ref (ad 0)), (1, .int (iI a0)), (2, .int (iI a1)), (3, .int (iI 0)), (4, .int (iI z4)), (5, .int (iI 0))]) C dX9_share_26 (Nat.le_of_ble_eq_true rfl) [1, 2, 3, 4, 5, 0] rfl rfl ?_
    obtain ⟨I5, ⟨n05, h05⟩, hs5⟩ := h
    have L5 : ∀ (n5 : Nat) (v3_5 : Int) (v5_5 : Int), I5 n5 v3_5 v5_5 → V p l e rm_X9_share s m args below meth c ad D cI cZ cG (Aw ad) 6 0 0 (MQ below (QI ad D cI cZ cG (fun z u => u = σ ∧ Post z)) args s 0 0 (Aw ad)) σ 28 [(0, .ref (ad 0)), (1, .int (iI a0)), (2, .int (iI a1)), (3, .int (iI v3_5)), (4, .int (iI z4)), (5, .int (iI v5_5))] [] := by
      intro n5
      induction n5 using Nat.strongRecOn with
      | ind n5 ih5 =>
        intro v3_5 v5_5 h
        have h := hs5 n5 v3_5 v5_5 h
        refine x_iload (q := 30) C dX9_share_28 5 rfl rfl ?_
        refine x_iconst (q := 31) (z := 4) C dX9_share_30 rfl rfl ?_
        obtain ⟨o6, h⟩ := h
        refine x_icmp_ge (q := 34) (tgt := 65) C dX9_share_31 rfl ⟨o6, by decide⟩ rfl (fun c7 => ?_) (fun c7 => ?_)
        · have h := h.1 c7
          refine x_iload_n (q := 66) (i := 3) C dX9_share_65 rfl 3 rfl rfl ?_
          refine x_bipush (q := 68) (z := 60) C dX9_share_66 rfl rfl ?_
          refine x_iload_n (q := 69) (i := 2) C dX9_share_68 rfl 2 rfl rfl ?_
          refine x_staI (q := 72) C ck_RX9_244 t3_126 (m_X9_fraction l hI h) ⟨⟨rfl, rfl⟩, ⟨Nat.le_of_ble_eq_true rfl, Nat.le_of_ble_eq_true rfl⟩, ⟨Nat.zero_le _, Nat.zero_le _⟩⟩ dX9_share_69 rfl rfl (Nat.le_of_ble_eq_true rfl) rfl (fun z8 σ8 h => ?_)
          rw [h.1]
          have h := h.2
          exact x_iret C dX9_share_72 ⟨rfl, h⟩
        · have h := h.2 c7
          refine x_aload_n (q := 35) (i := 0) C dX9_share_34 rfl 0 rfl rfl ?_
          refine x_getR (q := 38) (c0 := 3) C (Nat.le_of_ble_eq_true rfl) ly_0 fk_RX9_19 rfl dX9_share_35 rfl ?_
          refine x_iload_n (q := 39) (i := 1) C dX9_share_38 rfl 1 rfl rfl ?_
          refine x_iload (q := 41) C dX9_share_39 5 rfl rfl ?_
          refine x_virI (q := 44) C (Nat.le_of_ble_eq_true rfl) ly_3 rfl ck_RX9_237 vk_X1_isSolid (m_X1_isSolid l hI h) ⟨⟨rfl, rfl⟩, ⟨Nat.le_of_ble_eq_true rfl, Nat.le_of_ble_eq_true rfl⟩, ⟨Nat.zero_le _, Nat.zero_le _⟩⟩ dX9_share_41 rfl rfl (Nat.le_of_ble_eq_true rfl) rfl (fun z9 σ9 h => ?_)
          rw [h.1]
          have h := h.2
          obtain ⟨o10, h⟩ := h
          refine x_if_eq (q := 47) (tgt := 59) C dX9_share_44 rfl o10 rfl (fun c11 => ?_) (fun c11 => ?_)
          · have h := h.1 c11
            refine x_iinc (q := 62) (z' := v5_5 + 1) (lv' := [(0, .ref (ad 0)), (1, .int (iI a0)), (2, .int (iI a1)), (3, .int (iI v3_5)), (4, .int (iI z4)), (5, .int (iI (v5_5 + 1)))]) C dX9_share_59 5 rfl rfl (Nat.le_of_ble_eq_true rfl) [1, 2, 3, 4, 5, 0] rfl rfl ?_
            refine x_goto (tgt := 28) C dX9_share_62 rfl ?_
            obtain ⟨n12, hl13, h⟩ := h
            refine x_sub [0, 1, 2, 3, 4, 5] rfl ?_
            exact ih5 n12 hl13 _ _ h
          · have h := h.2 c11
            refine x_iload_n (q := 48) (i := 3) C dX9_share_47 rfl 3 rfl rfl ?_
            refine x_aload_n (q := 49) (i := 0) C dX9_share_48 rfl 0 rfl rfl ?_
            refine x_iload (q := 51) C dX9_share_49 4 rfl rfl ?_
            refine x_iload (q := 53) C dX9_share_51 5 rfl rfl ?_
            refine x_iadd (q := 54) C dX9_share_53  rfl ?_
            refine x_virI (q := 57) C (Nat.le_of_ble_eq_true rfl) ly_0 rfl ck_RX9_241 vk_X9_shareOfPlace (m_X9_shareOfPlace l hI h) ⟨⟨rfl, rfl⟩, ⟨Nat.le_of_ble_eq_true rfl, Nat.le_of_ble_eq_true rfl⟩, ⟨Nat.zero_le _, Nat.zero_le _⟩⟩ dX9_share_54 rfl rfl (Nat.le_of_ble_eq_true rfl) rfl (fun z14 σ14 h => ?_)
            rw [h.1]
            have h := h.2
            refine x_iadd (q := 58) C dX9_share_57  rfl ?_
            refine x_istore_n (q := 59) (i := 3) (lv' := [(0, .ref (ad 0)), (1, .int (iI a0)), (2, .int (iI a1)), (3, .int (iI (v3_5 + z14))), (4, .int (iI z4)), (5, .int (iI v5_5))]) C dX9_share_58 rfl (Nat.le_of_ble_eq_true rfl) [1, 2, 3, 0, 4, 5] rfl rfl ?_
            refine x_iinc (q := 62) (z' := v5_5 + 1) (lv' := [(0, .ref (ad 0)), (1, .int (iI a0)), (2, .int (iI a1)), (3, .int (iI (v3_5 + z14))), (4, .int (iI z4)), (5, .int (iI (v5_5 + 1)))]) C dX9_share_59 5 rfl rfl (Nat.le_of_ble_eq_true rfl) [1, 2, 3, 4, 5, 0] rfl rfl ?_
            refine x_goto (tgt := 28) C dX9_share_62 rfl ?_
            obtain ⟨n15, hl16, h⟩ := h
            refine x_sub [0, 1, 2, 3, 4, 5] rfl ?_
            exact ih5 n15 hl16 _ _ h
    exact L5 n05 0 0 h05
  · have h := h.2 c3
    refine x_iconst (q := 12) (z := (-1)) C dX9_share_11 rfl rfl ?_
    exact x_iret C dX9_share_12 ⟨rfl, h⟩
