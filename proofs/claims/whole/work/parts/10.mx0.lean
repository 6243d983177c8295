abbrev rm_X0_size : Room := { frames := 0, cells := 0, slots := 0, locals := 0 }
def vc_X0_size (σ : GS)  (Post : Int → Prop) : Prop :=
  Post (σ 23 1)
set_option maxHeartbeats 4000000 in
set_option maxRecDepth 10000 in
theorem m_X0_size (l : Launch) {ad : Nat → Nat} {D : va_G} {cI cZ cG : ClassId} (hI : Ij ad) {σ : GS}  {Post : Int → Prop} (h : vc_X0_size σ  Post) : Met l yX0_size (wX yX0_size cX0_size 1 (some .int)) rm_X0_size (va_Pc [.ref (ad 23)] (Wd ad D cI cZ cG σ)) (QI ad D cI cZ cG (fun z u => u = σ ∧ Post z)) 0 0 (Aw ad) := by
  refine met_V (own := RX0) hI (by decide +kernel) rfl (Nat.le_of_ble_eq_true rfl) ?_
  intro p e s m args below meth c C
  unfold vc_X0_size at h
  show V p l e rm_X0_size s m args below meth c ad D cI cZ cG (Aw ad) 1 0 0 (MQ below (QI ad D cI cZ cG (fun z u => u = σ ∧ Post z)) args s 0 0 (Aw ad)) σ 0 [(0, .ref (ad 23))] []
  refine x_aload_n (q := 1) (i := 0) C dX0_size_0 rfl 0 rfl rfl ?_
  refine x_getI (q := 4) C (Nat.le_of_ble_eq_true rfl) ly_23 fk_RX0_16 rfl dX0_size_1 rfl ?_
  exact x_iret C dX0_size_4 ⟨rfl, h⟩
abbrev rm_X0_clear : Room := { frames := 0, cells := 0, slots := 0, locals := 0 }
def vc_X0_clear (σ : GS)  (Post : GS → Prop) : Prop :=
  Post (up2 σ 23 1 0)
set_option maxHeartbeats 4000000 in
set_option maxRecDepth 10000 in
theorem m_X0_clear (l : Launch) {ad : Nat → Nat} {D : va_G} {cI cZ cG : ClassId} (hI : Ij ad) {σ : GS}  {Post : GS → Prop} (h : vc_X0_clear σ  Post) : Met l yX0_clear (wX yX0_clear cX0_clear 1 none) rm_X0_clear (va_Pc [.ref (ad 23)] (Wd ad D cI cZ cG σ)) (QV ad D cI cZ cG Post) 0 0 (Aw ad) := by
  refine met_V (own := RX0) hI (by decide +kernel) rfl (Nat.le_of_ble_eq_true rfl) ?_
  intro p e s m args below meth c C
  unfold vc_X0_clear at h
  show V p l e rm_X0_clear s m args below meth c ad D cI cZ cG (Aw ad) 1 0 0 (MQ below (QV ad D cI cZ cG Post) args s 0 0 (Aw ad)) σ 0 [(0, .ref (ad 23))] []
  refine x_aload_n (q := 1) (i := 0) C dX0_clear_0 rfl 0 rfl rfl ?_
  refine x_iconst (q := 2) (z := 0) C dX0_clear_1 rfl rfl ?_
  refine x_putI (q := 5) C (Nat.le_of_ble_eq_true rfl) ly_23 fk_RX0_16 rfl tyX0 tyX0_ok nmX0 rfl (tyX0_ok 1 (Nat.le_of_ble_eq_true rfl)) dX0_clear_2 rfl ?_
  exact x_vret C dX0_clear_5 h
abbrev rm_X0_forgetFirst : Room := { frames := 1, cells := 0, slots := 0, locals := 26 }
def vc_X0_forgetFirst (σ : GS)  (Post : GS → Prop) : Prop :=
  ∃ I1 : Nat → Int → GS → Prop, (∃ n : Nat, I1 n 1 σ) ∧ ∀ (n1 : Nat) (v1_1 : Int) (σ1 : GS), I1 n1 v1_1 σ1 →
  ((rg v1_1) ∧
      (((14 : Int) ≤ v1_1 →
        (Post (up2 σ1 23 1 13))) ∧
      (¬ (14 : Int) ≤ v1_1 →
        ((0 ≤ v1_1 ∧ v1_1 < 14) ∧
        ((0 ≤ (v1_1 - 1) ∧ (v1_1 - 1) < 14) ∧
        (∃ n' : Nat, n' < n1 ∧ I1 n' (v1_1 + 1) (upR σ1 (25 + (v1_1 - 1).toNat) (cp (σ1 (25 + v1_1.toNat)) (σ1 (25 + (v1_1 - 1).toNat)) (5 : Int).toNat))))))))
set_option maxHeartbeats 4000000 in
set_option maxRecDepth 10000 in
theorem m_X0_forgetFirst (l : Launch) {ad : Nat → Nat} {D : va_G} {cI cZ cG : ClassId} (hI : Ij ad) {σ : GS}  {Post : GS → Prop} (h : vc_X0_forgetFirst σ  Post) : Met l yX0_forgetFirst (wX yX0_forgetFirst cX0_forgetFirst 2 none) rm_X0_forgetFirst (va_Pc [.ref (ad 23)] (Wd ad D cI cZ cG σ)) (QV ad D cI cZ cG Post) 0 0 (Aw ad) := by
  refine met_V (own := RX0) hI (by decide +kernel) rfl (Nat.le_of_ble_eq_true rfl) ?_
  intro p e s m args below meth c C
  unfold vc_X0_forgetFirst at h
  show V p l e rm_X0_forgetFirst s m args below meth c ad D cI cZ cG (Aw ad) 2 0 0 (MQ below (QV ad D cI cZ cG Post) args s 0 0 (Aw ad)) σ 0 [(0, .ref (ad 23))] []
  refine x_iconst (q := 1) (z := 1) C dX0_forgetFirst_0 rfl rfl ?_
  refine x_istore_n (q := 2) (i := 1) (lv' := [(0, .ref (ad 23)), (1, .int (iI 1))]) C dX0_forgetFirst_1 rfl (Nat.le_of_ble_eq_true rfl) [1, 0] rfl rfl ?_
  obtain ⟨I1, ⟨n01, h01⟩, hs1⟩ := h
  have L1 : ∀ (n1 : Nat) (v1_1 : Int) (σ1 : GS), I1 n1 v1_1 σ1 → V p l e rm_X0_forgetFirst s m args below meth c ad D cI cZ cG (Aw ad) 2 0 0 (MQ below (QV ad D cI cZ cG Post) args s 0 0 (Aw ad)) σ1 2 [(0, .ref (ad 23)), (1, .int (iI v1_1))] [] := by
    intro n1
    induction n1 using Nat.strongRecOn with
    | ind n1 ih1 =>
      intro v1_1 σ1 h
      have h := hs1 n1 v1_1 σ1 h
      refine x_iload_n (q := 3) (i := 1) C dX0_forgetFirst_2 rfl 1 rfl rfl ?_
      refine x_bipush (q := 5) (z := 14) C dX0_forgetFirst_3 rfl rfl ?_
      obtain ⟨o2, h⟩ := h
      refine x_icmp_ge (q := 8) (tgt := 34) C dX0_forgetFirst_5 rfl ⟨o2, by decide⟩ rfl (fun c3 => ?_) (fun c3 => ?_)
      · have h := h.1 c3
        refine x_aload_n (q := 35) (i := 0) C dX0_forgetFirst_34 rfl 0 rfl rfl ?_
        refine x_bipush (q := 37) (z := 13) C dX0_forgetFirst_35 rfl rfl ?_
        refine x_putI (q := 40) C (Nat.le_of_ble_eq_true rfl) ly_23 fk_RX0_16 rfl tyX0 tyX0_ok nmX0 rfl (tyX0_ok 1 (Nat.le_of_ble_eq_true rfl)) dX0_forgetFirst_37 rfl ?_
        exact x_vret C dX0_forgetFirst_40 h
      · have h := h.2 c3
        refine x_aload_n (q := 9) (i := 0) C dX0_forgetFirst_8 rfl 0 rfl rfl ?_
        refine x_getR (q := 12) (c0 := 24) C (Nat.le_of_ble_eq_true rfl) ly_23 fk_RX0_11 rfl dX0_forgetFirst_9 rfl ?_
        refine x_iload_n (q := 13) (i := 1) C dX0_forgetFirst_12 rfl 1 rfl rfl ?_
        obtain ⟨o4, h⟩ := h
        have r5 := ra_24 (ix o4 rfl)
        refine x_aald (q := 14) C (Nat.le_of_ble_eq_true rfl) ly_24 dX0_forgetFirst_13 (ix o4 rfl) (Nat.le_of_ble_eq_true rfl) rfl ?_
        refine x_iconst (q := 15) (z := 0) C dX0_forgetFirst_14 rfl rfl ?_
        refine x_aload_n (q := 16) (i := 0) C dX0_forgetFirst_15 rfl 0 rfl rfl ?_
        refine x_getR (q := 19) (c0 := 24) C (Nat.le_of_ble_eq_true rfl) ly_23 fk_RX0_11 rfl dX0_forgetFirst_16 rfl ?_
        refine x_iload_n (q := 20) (i := 1) C dX0_forgetFirst_19 rfl 1 rfl rfl ?_
        refine x_iconst (q := 21) (z := 1) C dX0_forgetFirst_20 rfl rfl ?_
        refine x_isub (q := 22) C dX0_forgetFirst_21  rfl ?_
        obtain ⟨o6, h⟩ := h
        have r7 := ra_24 (ix o6 rfl)
        refine x_aald (q := 23) C (Nat.le_of_ble_eq_true rfl) ly_24 dX0_forgetFirst_22 (ix o6 rfl) (Nat.le_of_ble_eq_true rfl) rfl ?_
        refine x_iconst (q := 24) (z := 0) C dX0_forgetFirst_23 rfl rfl ?_
        refine x_iconst (q := 25) (z := 5) C dX0_forgetFirst_24 rfl rfl ?_
        refine x_copy (q := 28) C r5.2 r5.1 r7.2 r7.1 ⟨Nat.le_of_ble_eq_true rfl, Nat.le_of_ble_eq_true rfl⟩ t2_186 ⟨t2_107, t2_106, t1_14⟩ ⟨Nat.le_of_ble_eq_true rfl, Nat.le_of_ble_eq_true rfl⟩ dX0_forgetFirst_25 (by decide) rfl ?_
        refine x_iinc (q := 31) (z' := v1_1 + 1) (lv' := [(0, .ref (ad 23)), (1, .int (iI (v1_1 + 1)))]) C dX0_forgetFirst_28 1 rfl rfl (Nat.le_of_ble_eq_true rfl) [1, 0] rfl rfl ?_
        refine x_goto (tgt := 2) C dX0_forgetFirst_31 rfl ?_
        obtain ⟨n8, hl9, h⟩ := h
        refine x_sub [0, 1] rfl ?_
        exact ih1 n8 hl9 _ _ h
  exact L1 n01 1 σ h01
abbrev rm_X2_copyTo : Room := { frames := 1, cells := 0, slots := 0, locals := 26 }
def vc_X2_copyTo (σ : GS) (k0 : Nat) (r1 : Nat) (Post : GS → Prop) : Prop :=
  (k0 = 6 ∨ k0 = 8) ∧
  ((lay r1 = cA 5 ∧ r1 < 65) ∧
  (Post (upR σ r1 (cp (σ (k0 + 1)) (σ r1) (5 : Int).toNat))))
set_option maxHeartbeats 4000000 in
set_option maxRecDepth 10000 in
theorem m_X2_copyTo (l : Launch) {ad : Nat → Nat} {D : va_G} {cI cZ cG : ClassId} (hI : Ij ad) {σ : GS} {k0 : Nat} {r1 : Nat} {Post : GS → Prop} (h : vc_X2_copyTo σ k0 r1 Post) : Met l yX2_copyTo (wX yX2_copyTo cX2_copyTo 2 none) rm_X2_copyTo (va_Pc [.ref (ad k0), .ref (ad r1)] (Wd ad D cI cZ cG σ)) (QV ad D cI cZ cG Post) 0 0 (Aw ad) := by
  refine met_V (own := RX2) hI (by decide +kernel) rfl (Nat.le_of_ble_eq_true rfl) ?_
  intro p e s m args below meth c C
  unfold vc_X2_copyTo at h
  show V p l e rm_X2_copyTo s m args below meth c ad D cI cZ cG (Aw ad) 2 0 0 (MQ below (QV ad D cI cZ cG Post) args s 0 0 (Aw ad)) σ 0 [(0, .ref (ad k0)), (1, .ref (ad r1))] []
  obtain ⟨hp0, h⟩ := h
  have gk0 := gr_lay hp0
  obtain ⟨hp1, h⟩ := h
  refine x_aload_n (q := 1) (i := 0) C dX2_copyTo_0 rfl 0 rfl rfl ?_
  refine x_getR (q := 4) (c0 := k0 + 1) C gk0.2.2.1 gk0.1 fk_RX2_9 rfl dX2_copyTo_1 rfl ?_
  refine x_iconst (q := 5) (z := 0) C dX2_copyTo_4 rfl rfl ?_
  refine x_aload_n (q := 6) (i := 1) C dX2_copyTo_5 rfl 1 rfl rfl ?_
  refine x_iconst (q := 7) (z := 0) C dX2_copyTo_6 rfl rfl ?_
  refine x_iconst (q := 8) (z := 5) C dX2_copyTo_7 rfl rfl ?_
  refine x_copy (q := 11) C gk0.2.2.2 gk0.2.1 hp1.2 hp1.1 ⟨Nat.le_of_ble_eq_true rfl, Nat.le_of_ble_eq_true rfl⟩ t2_191 ⟨t2_107, t2_106, t1_14⟩ ⟨Nat.le_of_ble_eq_true rfl, Nat.le_of_ble_eq_true rfl⟩ dX2_copyTo_8 (by decide) rfl ?_
  exact x_vret C dX2_copyTo_11 h
abbrev rm_X0_remember : Room := { frames := 2, cells := 0, slots := 0, locals := 47 }
def vc_X0_remember (σ : GS) (k1 : Nat) (Post : GS → Prop) : Prop :=
  (k1 = 6 ∨ k1 = 8) ∧
  ((rg (σ 23 1)) ∧
  (((σ 23 1) < 14 →
    ((0 ≤ (σ 23 1) ∧ (σ 23 1) < 14) ∧
    (vc_X2_copyTo σ k1 (25 + (σ 23 1).toNat) (fun (σ5 : GS) =>
      Post (up2 σ5 23 1 ((σ5 23 1) + 1)))))) ∧
  (¬ (σ 23 1) < 14 →
    (vc_X0_forgetFirst σ  (fun (σ6 : GS) =>
      (0 ≤ (σ6 23 1) ∧ (σ6 23 1) < 14) ∧
    (vc_X2_copyTo σ6 k1 (25 + (σ6 23 1).toNat) (fun (σ9 : GS) =>
      Post (up2 σ9 23 1 ((σ9 23 1) + 1)))))))))
set_option maxHeartbeats 4000000 in
set_option maxRecDepth 10000 in
theorem m_X0_remember (l : Launch) {ad : Nat → Nat} {D : va_G} {cI cZ cG : ClassId} (hI : Ij ad) {σ : GS} {k1 : Nat} {Post : GS → Prop} (h : vc_X0_remember σ k1 Post) : Met l yX0_remember (wX yX0_remember cX0_remember 2 none) rm_X0_remember (va_Pc [.ref (ad 23), .ref (ad k1)] (Wd ad D cI cZ cG σ)) (QV ad D cI cZ cG Post) 0 0 (Aw ad) := by
  refine met_V (own := RX0) hI (by decide +kernel) rfl (Nat.le_of_ble_eq_true rfl) ?_
  intro p e s m args below meth c C
  unfold vc_X0_remember at h
  show V p l e rm_X0_remember s m args below meth c ad D cI cZ cG (Aw ad) 2 0 0 (MQ below (QV ad D cI cZ cG Post) args s 0 0 (Aw ad)) σ 0 [(0, .ref (ad 23)), (1, .ref (ad k1))] []
  obtain ⟨hp0, h⟩ := h
  have gk1 := gr_lay hp0
  refine x_aload_n (q := 1) (i := 0) C dX0_remember_0 rfl 0 rfl rfl ?_
  refine x_getI (q := 4) C (Nat.le_of_ble_eq_true rfl) ly_23 fk_RX0_16 rfl dX0_remember_1 rfl ?_
  refine x_bipush (q := 6) (z := 14) C dX0_remember_4 rfl rfl ?_
  obtain ⟨o1, h⟩ := h
  refine x_icmp_lt (q := 9) (tgt := 13) C dX0_remember_6 rfl ⟨o1, by decide⟩ rfl (fun c2 => ?_) (fun c2 => ?_)
  · have h := h.1 c2
    refine x_aload_n (q := 14) (i := 1) C dX0_remember_13 rfl 1 rfl rfl ?_
    refine x_aload_n (q := 15) (i := 0) C dX0_remember_14 rfl 0 rfl rfl ?_
    refine x_getR (q := 18) (c0 := 24) C (Nat.le_of_ble_eq_true rfl) ly_23 fk_RX0_11 rfl dX0_remember_15 rfl ?_
    refine x_aload_n (q := 19) (i := 0) C dX0_remember_18 rfl 0 rfl rfl ?_
    refine x_getI (q := 22) C (Nat.le_of_ble_eq_true rfl) ly_23 fk_RX0_16 rfl dX0_remember_19 rfl ?_
    obtain ⟨o3, h⟩ := h
    have r4 := ra_24 (ix o3 rfl)
    refine x_aald (q := 23) C (Nat.le_of_ble_eq_true rfl) ly_24 dX0_remember_22 (ix o3 rfl) (Nat.le_of_ble_eq_true rfl) rfl ?_
    refine x_virV (q := 26) C gk1.2.2.1 gk1.1 rfl ck_RX0_23 vk_X2_copyTo (m_X2_copyTo l hI h) ⟨⟨rfl, rfl⟩, ⟨Nat.le_of_ble_eq_true rfl, Nat.le_of_ble_eq_true rfl⟩, ⟨Nat.zero_le _, Nat.zero_le _⟩⟩ dX0_remember_23 rfl rfl (Nat.le_of_ble_eq_true rfl) rfl (fun σ5 h => ?_)
    refine x_aload_n (q := 27) (i := 0) C dX0_remember_26 rfl 0 rfl rfl ?_
    refine x_dup (q := 28) C dX0_remember_27 rfl rfl ?_
    refine x_getI (q := 31) C (Nat.le_of_ble_eq_true rfl) ly_23 fk_RX0_16 rfl dX0_remember_28 rfl ?_
    refine x_iconst (q := 32) (z := 1) C dX0_remember_31 rfl rfl ?_
    refine x_iadd (q := 33) C dX0_remember_32  rfl ?_
    refine x_putI (q := 36) C (Nat.le_of_ble_eq_true rfl) ly_23 fk_RX0_16 rfl tyX0 tyX0_ok nmX0 rfl (tyX0_ok 1 (Nat.le_of_ble_eq_true rfl)) dX0_remember_33 rfl ?_
    exact x_vret C dX0_remember_36 h
  · have h := h.2 c2
    refine x_aload_n (q := 10) (i := 0) C dX0_remember_9 rfl 0 rfl rfl ?_
    refine x_virV (q := 13) C (Nat.le_of_ble_eq_true rfl) ly_23 rfl ck_RX0_20 vk_X0_forgetFirst (m_X0_forgetFirst l hI h) ⟨⟨rfl, rfl⟩, ⟨Nat.le_of_ble_eq_true rfl, Nat.le_of_ble_eq_true rfl⟩, ⟨Nat.zero_le _, Nat.zero_le _⟩⟩ dX0_remember_10 rfl rfl (Nat.le_of_ble_eq_true rfl) rfl (fun σ6 h => ?_)
    refine x_aload_n (q := 14) (i := 1) C dX0_remember_13 rfl 1 rfl rfl ?_
    refine x_aload_n (q := 15) (i := 0) C dX0_remember_14 rfl 0 rfl rfl ?_
    refine x_getR (q := 18) (c0 := 24) C (Nat.le_of_ble_eq_true rfl) ly_23 fk_RX0_11 rfl dX0_remember_15 rfl ?_
    refine x_aload_n (q := 19) (i := 0) C dX0_remember_18 rfl 0 rfl rfl ?_
    refine x_getI (q := 22) C (Nat.le_of_ble_eq_true rfl) ly_23 fk_RX0_16 rfl dX0_remember_19 rfl ?_
    obtain ⟨o7, h⟩ := h
    have r8 := ra_24 (ix o7 rfl)
    refine x_aald (q := 23) C (Nat.le_of_ble_eq_true rfl) ly_24 dX0_remember_22 (ix o7 rfl) (Nat.le_of_ble_eq_true rfl) rfl ?_
    refine x_virV (q := 26) C gk1.2.2.1 gk1.1 rfl ck_RX0_23 vk_X2_copyTo (m_X2_copyTo l hI h) ⟨⟨rfl, rfl⟩, ⟨Nat.le_of_ble_eq_true rfl, Nat.le_of_ble_eq_true rfl⟩, ⟨Nat.zero_le _, Nat.zero_le _⟩⟩ dX0_remember_23 rfl rfl (Nat.le_of_ble_eq_true rfl) rfl (fun σ9 h => ?_)
    refine x_aload_n (q := 27) (i := 0) C dX0_remember_26 rfl 0 rfl rfl ?_
    refine x_dup (q := 28) C dX0_remember_27 rfl rfl ?_
    refine x_getI (q := 31) C (Nat.le_of_ble_eq_true rfl) ly_23 fk_RX0_16 rfl dX0_remember_28 rfl ?_
    refine x_iconst (q := 32) (z := 1) C dX0_remember_31 rfl rfl ?_
    refine x_iadd (q := 33) C dX0_remember_32  rfl ?_
    refine x_putI (q := 36) C (Nat.le_of_ble_eq_true rfl) ly_23 fk_RX0_16 rfl tyX0 tyX0_ok nmX0 rfl (tyX0_ok 1 (Nat.le_of_ble_eq_true rfl)) dX0_remember_33 rfl ?_
    exact x_vret C dX0_remember_36 h
abbrev rm_X2_copyBack : Room := { frames := 1, cells := 0, slots := 0, locals := 26 }
def vc_X2_copyBack (σ : GS) (k0 : Nat) (r1 : Nat) (Post : GS → Prop) : Prop :=
  (k0 = 6 ∨ k0 = 8) ∧
  ((lay r1 = cA 5 ∧ r1 < 65) ∧
  (Post (upR σ (k0 + 1) (cp (σ r1) (σ (k0 + 1)) (5 : Int).toNat))))
set_option maxHeartbeats 4000000 in
set_option maxRecDepth 10000 in
theorem m_X2_copyBack (l : Launch) {ad : Nat → Nat} {D : va_G} {cI cZ cG : ClassId} (hI : Ij ad) {σ : GS} {k0 : Nat} {r1 : Nat} {Post : GS → Prop} (h : vc_X2_copyBack σ k0 r1 Post) : Met l yX2_copyBack (wX yX2_copyBack cX2_copyBack 2 none) rm_X2_copyBack (va_Pc [.ref (ad k0), .ref (ad r1)] (Wd ad D cI cZ cG σ)) (QV ad D cI cZ cG Post) 0 0 (Aw ad) := by
  refine met_V (own := RX2) hI (by decide +kernel) rfl (Nat.le_of_ble_eq_true rfl) ?_
  intro p e s m args below meth c C
  unfold vc_X2_copyBack at h
  show V p l e rm_X2_copyBack s m args below meth c ad D cI cZ cG (Aw ad) 2 0 0 (MQ below (QV ad D cI cZ cG Post) args s 0 0 (Aw ad)) σ 0 [(0, .ref (ad k0)), (1, .ref (ad r1))] []
  obtain ⟨hp0, h⟩ := h
  have gk0 := gr_lay hp0
  obtain ⟨hp1, h⟩ := h
  refine x_aload_n (q := 1) (i := 1) C dX2_copyBack_0 rfl 1 rfl rfl ?_
  refine x_iconst (q := 2) (z := 0) C dX2_copyBack_1 rfl rfl ?_
  refine x_aload_n (q := 3) (i := 0) C dX2_copyBack_2 rfl 0 rfl rfl ?_
  refine x_getR (q := 6) (c0 := k0 + 1) C gk0.2.2.1 gk0.1 fk_RX2_9 rfl dX2_copyBack_3 rfl ?_
  refine x_iconst (q := 7) (z := 0) C dX2_copyBack_6 rfl rfl ?_
  refine x_iconst (q := 8) (z := 5) C dX2_copyBack_7 rfl rfl ?_
  refine x_copy (q := 11) C hp1.2 hp1.1 gk0.2.2.2 gk0.2.1 ⟨Nat.le_of_ble_eq_true rfl, Nat.le_of_ble_eq_true rfl⟩ t2_191 ⟨t2_107, t2_106, t1_14⟩ ⟨Nat.le_of_ble_eq_true rfl, Nat.le_of_ble_eq_true rfl⟩ dX2_copyBack_8 (by decide) rfl ?_
  exact x_vret C dX2_copyBack_11 h
abbrev rm_X0_takeBack : Room := { frames := 2, cells := 0, slots := 0, locals := 47 }
def vc_X0_takeBack (σ : GS) (k1 : Nat) (Post : Int → GS → Prop) : Prop :=
  (k1 = 6 ∨ k1 = 8) ∧
  ((rg (σ 23 1)) ∧
  (((0 : Int) < (σ 23 1) →
    ((0 ≤ ((up2 σ 23 1 ((σ 23 1) - 1)) 23 1) ∧ ((up2 σ 23 1 ((σ 23 1) - 1)) 23 1) < 14) ∧
    (vc_X2_copyBack (up2 σ 23 1 ((σ 23 1) - 1)) k1 (25 + ((up2 σ 23 1 ((σ 23 1) - 1)) 23 1).toNat) (fun (σ5 : GS) =>
      Post 1 σ5)))) ∧
  (¬ (0 : Int) < (σ 23 1) →
    (Post 0 σ))))
set_option maxHeartbeats 4000000 in
set_option maxRecDepth 10000 in
theorem m_X0_takeBack (l : Launch) {ad : Nat → Nat} {D : va_G} {cI cZ cG : ClassId} (hI : Ij ad) {σ : GS} {k1 : Nat} {Post : Int → GS → Prop} (h : vc_X0_takeBack σ k1 Post) : Met l yX0_takeBack (wX yX0_takeBack cX0_takeBack 2 (some .boolean)) rm_X0_takeBack (va_Pc [.ref (ad 23), .ref (ad k1)] (Wd ad D cI cZ cG σ)) (QI ad D cI cZ cG Post) 0 0 (Aw ad) := by
  refine met_V (own := RX0) hI (by decide +kernel) rfl (Nat.le_of_ble_eq_true rfl) ?_
  intro p e s m args below meth c C
  unfold vc_X0_takeBack at h
  show V p l e rm_X0_takeBack s m args below meth c ad D cI cZ cG (Aw ad) 2 0 0 (MQ below (QI ad D cI cZ cG Post) args s 0 0 (Aw ad)) σ 0 [(0, .ref (ad 23)), (1, .ref (ad k1))] []
  obtain ⟨hp0, h⟩ := h
  have gk1 := gr_lay hp0
  refine x_aload_n (q := 1) (i := 0) C dX0_takeBack_0 rfl 0 rfl rfl ?_
  refine x_getI (q := 4) C (Nat.le_of_ble_eq_true rfl) ly_23 fk_RX0_16 rfl dX0_takeBack_1 rfl ?_
  obtain ⟨o1, h⟩ := h
  refine x_if_gt (q := 7) (tgt := 9) C dX0_takeBack_4 rfl o1 rfl (fun c2 => ?_) (fun c2 => ?_)
  · have h := h.1 c2
    refine x_aload_n (q := 10) (i := 0) C dX0_takeBack_9 rfl 0 rfl rfl ?_
    refine x_dup (q := 11) C dX0_takeBack_10 rfl rfl ?_
    refine x_getI (q := 14) C (Nat.le_of_ble_eq_true rfl) ly_23 fk_RX0_16 rfl dX0_takeBack_11 rfl ?_
    refine x_iconst (q := 15) (z := 1) C dX0_takeBack_14 rfl rfl ?_
    refine x_isub (q := 16) C dX0_takeBack_15  rfl ?_
    refine x_putI (q := 19) C (Nat.le_of_ble_eq_true rfl) ly_23 fk_RX0_16 rfl tyX0 tyX0_ok nmX0 rfl (tyX0_ok 1 (Nat.le_of_ble_eq_true rfl)) dX0_takeBack_16 rfl ?_
    refine x_aload_n (q := 20) (i := 1) C dX0_takeBack_19 rfl 1 rfl rfl ?_
    refine x_aload_n (q := 21) (i := 0) C dX0_takeBack_20 rfl 0 rfl rfl ?_
    refine x_getR (q := 24) (c0 := 24) C (Nat.le_of_ble_eq_true rfl) ly_23 fk_RX0_11 rfl dX0_takeBack_21 rfl ?_
    refine x_aload_n (q := 25) (i := 0) C dX0_takeBack_24 rfl 0 rfl rfl ?_
    refine x_getI (q := 28) C (Nat.le_of_ble_eq_true rfl) ly_23 fk_RX0_16 rfl dX0_takeBack_25 rfl ?_
    obtain ⟨o3, h⟩ := h
    have r4 := ra_24 (ix o3 rfl)
    refine x_aald (q := 29) C (Nat.le_of_ble_eq_true rfl) ly_24 dX0_takeBack_28 (ix o3 rfl) (Nat.le_of_ble_eq_true rfl) rfl ?_
    refine x_virV (q := 32) C gk1.2.2.1 gk1.1 rfl ck_RX0_35 vk_X2_copyBack (m_X2_copyBack l hI h) ⟨⟨rfl, rfl⟩, ⟨Nat.le_of_ble_eq_true rfl, Nat.le_of_ble_eq_true rfl⟩, ⟨Nat.zero_le _, Nat.zero_le _⟩⟩ dX0_takeBack_29 rfl rfl (Nat.le_of_ble_eq_true rfl) rfl (fun σ5 h => ?_)
    refine x_iconst (q := 33) (z := 1) C dX0_takeBack_32 rfl rfl ?_
    exact x_zret C dX0_takeBack_33 (by decide) h
  · have h := h.2 c2
    refine x_iconst (q := 8) (z := 0) C dX0_takeBack_7 rfl rfl ?_
    exact x_zret C dX0_takeBack_8 (by decide) h
abbrev rm_X3_length : Room := { frames := 0, cells := 0, slots := 0, locals := 0 }
def vc_X3_length (σ : GS)  (Post : Int → Prop) : Prop :=
  Post (σ 1 1)
set_option maxHeartbeats 4000000 in
set_option maxRecDepth 10000 in
theorem m_X3_length (l : Launch) {ad : Nat → Nat} {D : va_G} {cI cZ cG : ClassId} (hI : Ij ad) {σ : GS}  {Post : Int → Prop} (h : vc_X3_length σ  Post) : Met l yX3_length (wX yX3_length cX3_length 1 (some .int)) rm_X3_length (va_Pc [.ref (ad 1)] (Wd ad D cI cZ cG σ)) (QI ad D cI cZ cG (fun z u => u = σ ∧ Post z)) 0 0 (Aw ad) := by
  refine met_V (own := RX3) hI (by decide +kernel) rfl (Nat.le_of_ble_eq_true rfl) ?_
  intro p e s m args below meth c C
  unfold vc_X3_length at h
  show V p l e rm_X3_length s m args below meth c ad D cI cZ cG (Aw ad) 1 0 0 (MQ below (QI ad D cI cZ cG (fun z u => u = σ ∧ Post z)) args s 0 0 (Aw ad)) σ 0 [(0, .ref (ad 1))] []
  refine x_aload_n (q := 1) (i := 0) C dX3_length_0 rfl 0 rfl rfl ?_
  refine x_getI (q := 4) C (Nat.le_of_ble_eq_true rfl) ly_1 fk_RX3_15 rfl dX3_length_1 rfl ?_
  exact x_iret C dX3_length_4 ⟨rfl, h⟩
abbrev rm_X3_at : Room := { frames := 0, cells := 0, slots := 0, locals := 0 }
def vc_X3_at (σ : GS) (a0 : Int) (Post : Int → Prop) : Prop :=
  (rg a0) ∧
  ((a0 < 0 →
    (Post (-9))) ∧
  (¬ a0 < 0 →
    ((rg (σ 1 1)) ∧
    (((σ 1 1) ≤ a0 →
      (Post (-9))) ∧
    (¬ (σ 1 1) ≤ a0 →
      ((0 ≤ a0 ∧ a0 < 64) ∧
      (Post (σ 2 a0.toNat))))))))
set_option maxHeartbeats 4000000 in
set_option maxRecDepth 10000 in
theorem m_X3_at (l : Launch) {ad : Nat → Nat} {D : va_G} {cI cZ cG : ClassId} (hI : Ij ad) {σ : GS} {a0 : Int} {Post : Int → Prop} (h : vc_X3_at σ a0 Post) : Met l yX3_at (wX yX3_at cX3_at 2 (some .int)) rm_X3_at (va_Pc [.ref (ad 1), .int (iI a0)] (Wd ad D cI cZ cG σ)) (QI ad D cI cZ cG (fun z u => u = σ ∧ Post z)) 0 0 (Aw ad) := by
  refine met_V (own := RX3) hI (by decide +kernel) rfl (Nat.le_of_ble_eq_true rfl) ?_
  intro p e s m args below meth c C
  unfold vc_X3_at at h
  show V p l e rm_X3_at s m args below meth c ad D cI cZ cG (Aw ad) 2 0 0 (MQ below (QI ad D cI cZ cG (fun z u => u = σ ∧ Post z)) args s 0 0 (Aw ad)) σ 0 [(0, .ref (ad 1)), (1, .int (iI a0))] []
  refine x_iload_n (q := 1) (i := 1) C dX3_at_0 rfl 1 rfl rfl ?_
  obtain ⟨o1, h⟩ := h
  refine x_if_lt (q := 4) (tgt := 21) C dX3_at_1 rfl o1 rfl (fun c2 => ?_) (fun c2 => ?_)
  · have h := h.1 c2
    refine x_bipush (q := 23) (z := (-9)) C dX3_at_21 rfl rfl ?_
    exact x_iret C dX3_at_23 ⟨rfl, h⟩
  · have h := h.2 c2
    refine x_iload_n (q := 5) (i := 1) C dX3_at_4 rfl 1 rfl rfl ?_
    refine x_aload_n (q := 6) (i := 0) C dX3_at_5 rfl 0 rfl rfl ?_
    refine x_getI (q := 9) C (Nat.le_of_ble_eq_true rfl) ly_1 fk_RX3_15 rfl dX3_at_6 rfl ?_
    obtain ⟨o3, h⟩ := h
    refine x_icmp_ge (q := 12) (tgt := 21) C dX3_at_9 rfl ⟨o1, o3⟩ rfl (fun c4 => ?_) (fun c4 => ?_)
    · have h := h.1 c4
      refine x_bipush (q := 23) (z := (-9)) C dX3_at_21 rfl rfl ?_
      exact x_iret C dX3_at_23 ⟨rfl, h⟩
    · have h := h.2 c4
      refine x_aload_n (q := 13) (i := 0) C dX3_at_12 rfl 0 rfl rfl ?_
      refine x_getR (q := 16) (c0 := 2) C (Nat.le_of_ble_eq_true rfl) ly_1 fk_RX3_9 rfl dX3_at_13 rfl ?_
      refine x_iload_n (q := 17) (i := 1) C dX3_at_16 rfl 1 rfl rfl ?_
      obtain ⟨o5, h⟩ := h
      refine x_iald (q := 18) C (Nat.le_of_ble_eq_true rfl) ly_2 dX3_at_17 (ix o5 rfl) (Nat.le_of_ble_eq_true rfl) rfl ?_
      refine x_goto (tgt := 23) C dX3_at_18 rfl ?_
      exact x_iret C dX3_at_23 ⟨rfl, h⟩
abbrev rm_X1_take : Room := { frames := 1, cells := 0, slots := 0, locals := 26 }
def vc_X1_take (σ : GS)  (Post : GS → Prop) : Prop :=
  vc_X3_length σ  (fun (z1 : Int) =>
    (0 ≤ z1 ∧ z1 ≤ 2147483647) ∧
  ((rg (z1 / 10)) ∧
  (∃ I4 : Nat → Int → GS → Prop, (∃ n : Nat, I4 n 0 (up2 σ 3 2 (min (z1 / 10) 6))) ∧ ∀ (n4 : Nat) (v2_4 : Int) (σ4 : GS), I4 n4 v2_4 σ4 →
  ((rg v2_4) ∧
      ((rg (σ4 3 2)) ∧
      (((σ4 3 2) ≤ v2_4 →
        (Post σ4)) ∧
      (¬ (σ4 3 2) ≤ v2_4 →
        (vc_X3_at σ4 ((1 + (10 * v2_4)) + 1) (fun (z8 : Int) =>
          (0 ≤ v2_4 ∧ v2_4 < 6) ∧
        (∃ I10 : Nat → Int → GS → Prop, (∃ n : Nat, I10 n 0 (up2 σ4 4 v2_4.toNat (z8 - 48))) ∧ ∀ (n10 : Nat) (v4_10 : Int) (σ10 : GS), I10 n10 v4_10 σ10 →
        ((rg v4_10) ∧
            (((8 : Int) ≤ v4_10 →
              (∃ n' : Nat, n' < n4 ∧ I4 n' (v2_4 + 1) σ10)) ∧
            (¬ (8 : Int) ≤ v4_10 →
              (vc_X3_at σ10 (((1 + (10 * v2_4)) + 2) + v4_10) (fun (z15 : Int) =>
                (0 ≤ ((v2_4 * 8) + v4_10) ∧ ((v2_4 * 8) + v4_10) < 48) ∧
              (∃ n' : Nat, n' < n10 ∧ I10 n' (v4_10 + 1) (up2 σ10 5 ((v2_4 * 8) + v4_10).toNat z15)))))))))))))))))
set_option maxHeartbeats 4000000 in
set_option maxRecDepth 10000 in
theorem m_X1_take (l : Launch) {ad : Nat → Nat} {D : va_G} {cI cZ cG : ClassId} (hI : Ij ad) {σ : GS}  {Post : GS → Prop} (h : vc_X1_take σ  Post) : Met l yX1_take (wX yX1_take cX1_take 5 none) rm_X1_take (va_Pc [.ref (ad 3), .ref (ad 1)] (Wd ad D cI cZ cG σ)) (QV ad D cI cZ cG Post) 0 0 (Aw ad) := by
  refine met_V (own := RX1) hI (by decide +kernel) rfl (Nat.le_of_ble_eq_true rfl) ?_
  intro p e s m args below meth c C
  unfold vc_X1_take at h
  show V p l e rm_X1_take s m args below meth c ad D cI cZ cG (Aw ad) 5 0 0 (MQ below (QV ad D cI cZ cG Post) args s 0 0 (Aw ad)) σ 0 [(0, .ref (ad 3)), (1, .ref (ad 1))] []
  refine x_aload_n (q := 1) (i := 0) C dX1_take_0 rfl 0 rfl rfl ?_
  refine x_aload_n (q := 2) (i := 1) C dX1_take_1 rfl 1 rfl rfl ?_
  refine x_virI (q := 5) C (Nat.le_of_ble_eq_true rfl) ly_1 rfl ck_RX1_18 vk_X3_length (m_X3_length l hI h) ⟨⟨rfl, rfl⟩, ⟨Nat.le_of_ble_eq_true rfl, Nat.le_of_ble_eq_true rfl⟩, ⟨Nat.zero_le _, Nat.zero_le _⟩⟩ dX1_take_2 rfl rfl (Nat.le_of_ble_eq_true rfl) rfl (fun z1 σ1 h => ?_)
  rw [h.1]
  have h := h.2
  refine x_bipush (q := 7) (z := 10) C dX1_take_5 rfl rfl ?_
  obtain ⟨o2, h⟩ := h
  refine x_idiv (q := 8) C dX1_take_7 ⟨o2, by decide⟩ rfl ?_
  refine x_bipush (q := 10) (z := 6) C dX1_take_8 rfl rfl ?_
  obtain ⟨o3, h⟩ := h
  refine x_min (q := 13) C t2_16 ⟨t2_17, t1_13, t2_18⟩ ⟨⟨Nat.le_of_ble_eq_true rfl, Nat.le_of_ble_eq_true rfl⟩, ⟨Nat.zero_le _, Nat.zero_le _⟩⟩ dX1_take_10 ⟨o3, by decide⟩ rfl ?_
  refine x_putI (q := 16) C (Nat.le_of_ble_eq_true rfl) ly_3 fk_RX1_30 rfl tyX1 tyX1_ok nmX1 rfl (tyX1_ok 2 (Nat.le_of_ble_eq_true rfl)) dX1_take_13 rfl ?_
  refine x_iconst (q := 17) (z := 0) C dX1_take_16 rfl rfl ?_
  refine x_istore_n (q := 18) (i := 2) (lv' := [(0, .ref (ad 3)), (1, .ref (ad 1)), (2, .int (iI 0))]) C dX1_take_17 rfl (Nat.le_of_ble_eq_true rfl) [1, 2, 0] rfl rfl ?_
  obtain ⟨I4, ⟨n04, h04⟩, hs4⟩ := h
  have L4 : ∀ (n4 : Nat) (v2_4 : Int) (σ4 : GS), I4 n4 v2_4 σ4 → V p l e rm_X1_take s m args below meth c ad D cI cZ cG (Aw ad) 5 0 0 (MQ below (QV ad D cI cZ cG Post) args s 0 0 (Aw ad)) σ4 18 [(0, .ref (ad 3)), (1, .ref (ad 1)), (2, .int (iI v2_4))] [] := by
    intro n4
    induction n4 using Nat.strongRecOn with
    | ind n4 ih4 =>
      intro v2_4 σ4 h
      have h := hs4 n4 v2_4 σ4 h
      refine x_iload_n (q := 19) (i := 2) C dX1_take_18 rfl 2 rfl rfl ?_
      refine x_aload_n (q := 20) (i := 0) C dX1_take_19 rfl 0 rfl rfl ?_
      refine x_getI (q := 23) C (Nat.le_of_ble_eq_true rfl) ly_3 fk_RX1_30 rfl dX1_take_20 rfl ?_
      obtain ⟨o5, h⟩ := h
      obtain ⟨o6, h⟩ := h
      refine x_icmp_ge (q := 26) (tgt := 93) C dX1_take_23 rfl ⟨o5, o6⟩ rfl (fun c7 => ?_) (fun c7 => ?_)
      · have h := h.1 c7
        exact x_vret C dX1_take_93 h
      · have h := h.2 c7
        refine x_iconst (q := 27) (z := 1) C dX1_take_26 rfl rfl ?_
        refine x_bipush (q := 29) (z := 10) C dX1_take_27 rfl rfl ?_
        refine x_iload_n (q := 30) (i := 2) C dX1_take_29 rfl 2 rfl rfl ?_
        refine x_imul (q := 31) C dX1_take_30  rfl ?_
        refine x_iadd (q := 32) C dX1_take_31  rfl ?_
        refine x_istore_n (q := 33) (i := 3) (lv' := [(0, .ref (ad 3)), (1, .ref (ad 1)), (2, .int (iI v2_4)), (3, .int (iI (1 + (10 * v2_4))))]) C dX1_take_32 rfl (Nat.le_of_ble_eq_true rfl) [1, 2, 3, 0] rfl rfl ?_
        refine x_aload_n (q := 34) (i := 0) C dX1_take_33 rfl 0 rfl rfl ?_
        refine x_getR (q := 37) (c0 := 4) C (Nat.le_of_ble_eq_true rfl) ly_3 fk_RX1_9 rfl dX1_take_34 rfl ?_
        refine x_iload_n (q := 38) (i := 2) C dX1_take_37 rfl 2 rfl rfl ?_
        refine x_aload_n (q := 39) (i := 1) C dX1_take_38 rfl 1 rfl rfl ?_
        refine x_iload_n (q := 40) (i := 3) C dX1_take_39 rfl 3 rfl rfl ?_
        refine x_iconst (q := 41) (z := 1) C dX1_take_40 rfl rfl ?_
        refine x_iadd (q := 42) C dX1_take_41  rfl ?_
        refine x_virI (q := 45) C (Nat.le_of_ble_eq_true rfl) ly_1 rfl ck_RX1_34 vk_X3_at (m_X3_at l hI h) ⟨⟨rfl, rfl⟩, ⟨Nat.le_of_ble_eq_true rfl, Nat.le_of_ble_eq_true rfl⟩, ⟨Nat.zero_le _, Nat.zero_le _⟩⟩ dX1_take_42 rfl rfl (Nat.le_of_ble_eq_true rfl) rfl (fun z8 σ8 h => ?_)
        rw [h.1]
        have h := h.2
        refine x_bipush (q := 47) (z := 48) C dX1_take_45 rfl rfl ?_
        refine x_isub (q := 48) C dX1_take_47  rfl ?_
        obtain ⟨o9, h⟩ := h
        refine x_iast (q := 49) C (Nat.le_of_ble_eq_true rfl) ly_4 dX1_take_48 (ix o9 rfl) (Nat.le_of_ble_eq_true rfl)  rfl ?_
        refine x_iconst (q := 50) (z := 0) C dX1_take_49 rfl rfl ?_
        refine x_istore (q := 52) (i := 4) (lv' := [(0, .ref (ad 3)), (1, .ref (ad 1)), (2, .int (iI v2_4)), (3, .int (iI (1 + (10 * v2_4)))), (4, .int (iI 0))]) C dX1_take_50 (Nat.le_of_ble_eq_true rfl) [1, 2, 3, 4, 0] rfl rfl ?_
        obtain ⟨I10, ⟨n010, h010⟩, hs10⟩ := h
        have L10 : ∀ (n10 : Nat) (v4_10 : Int) (σ10 : GS), I10 n10 v4_10 σ10 → V p l e rm_X1_take s m args below meth c ad D cI cZ cG (Aw ad) 5 0 0 (MQ below (QV ad D cI cZ cG Post) args s 0 0 (Aw ad)) σ10 52 [(0, .ref (ad 3)), (1, .ref (ad 1)), (2, .int (iI v2_4)), (3, .int (iI (1 + (10 * v2_4)))), (4, .int (iI v4_10))] [] := by
          intro n10
          induction n10 using Nat.strongRecOn with
          | ind n10 ih10 =>
            intro v4_10 σ10 h
            have h := hs10 n10 v4_10 σ10 h
            refine x_iload (q := 54) C dX1_take_52 4 rfl rfl ?_
            refine x_bipush (q := 56) (z := 8) C dX1_take_54 rfl rfl ?_
            obtain ⟨o11, h⟩ := h
            refine x_icmp_ge (q := 59) (tgt := 87) C dX1_take_56 rfl ⟨o11, by decide⟩ rfl (fun c12 => ?_) (fun c12 => ?_)
            · have h := h.1 c12
              refine x_iinc (q := 90) (z' := v2_4 + 1) (lv' := [(0, .ref (ad 3)), (1, .ref (ad 1)), (2, .int (iI (v2_4 + 1))), (3, .int (iI (1 + (10 * v2_4)))), (4, .int (iI v4_10))]) C dX1_take_87 2 rfl rfl (Nat.le_of_ble_eq_true rfl) [1, 2, 0, 3, 4] rfl rfl ?_
              refine x_goto (tgt := 18) C dX1_take_90 rfl ?_
              obtain ⟨n13, hl14, h⟩ := h
              refine x_sub [0, 1, 2] rfl ?_
              exact ih4 n13 hl14 _ _ h
            · have h := h.2 c12
              refine x_aload_n (q := 60) (i := 0) C dX1_take_59 rfl 0 rfl rfl ?_
              refine x_getR (q := 63) (c0 := 5) C (Nat.le_of_ble_eq_true rfl) ly_3 fk_RX1_15 rfl dX1_take_60 rfl ?_
              refine x_iload_n (q := 64) (i := 2) C dX1_take_63 rfl 2 rfl rfl ?_
              refine x_bipush (q := 66) (z := 8) C dX1_take_64 rfl rfl ?_
              refine x_imul (q := 67) C dX1_take_66  rfl ?_
              refine x_iload (q := 69) C dX1_take_67 4 rfl rfl ?_
              refine x_iadd (q := 70) C dX1_take_69  rfl ?_
              refine x_aload_n (q := 71) (i := 1) C dX1_take_70 rfl 1 rfl rfl ?_
              refine x_iload_n (q := 72) (i := 3) C dX1_take_71 rfl 3 rfl rfl ?_
              refine x_iconst (q := 73) (z := 2) C dX1_take_72 rfl rfl ?_
              refine x_iadd (q := 74) C dX1_take_73  rfl ?_
              refine x_iload (q := 76) C dX1_take_74 4 rfl rfl ?_
              refine x_iadd (q := 77) C dX1_take_76  rfl ?_
              refine x_virI (q := 80) C (Nat.le_of_ble_eq_true rfl) ly_1 rfl ck_RX1_34 vk_X3_at (m_X3_at l hI h) ⟨⟨rfl, rfl⟩, ⟨Nat.le_of_ble_eq_true rfl, Nat.le_of_ble_eq_true rfl⟩, ⟨Nat.zero_le _, Nat.zero_le _⟩⟩ dX1_take_77 rfl rfl (Nat.le_of_ble_eq_true rfl) rfl (fun z15 σ15 h => ?_)
              rw [h.1]
              have h := h.2
              obtain ⟨o16, h⟩ := h
              refine x_iast (q := 81) C (Nat.le_of_ble_eq_true rfl) ly_5 dX1_take_80 (ix o16 rfl) (Nat.le_of_ble_eq_true rfl)  rfl ?_
              refine x_iinc (q := 84) (z' := v4_10 + 1) (lv' := [(0, .ref (ad 3)), (1, .ref (ad 1)), (2, .int (iI v2_4)), (3, .int (iI (1 + (10 * v2_4)))), (4, .int (iI (v4_10 + 1)))]) C dX1_take_81 4 rfl rfl (Nat.le_of_ble_eq_true rfl) [1, 2, 3, 4, 0] rfl rfl ?_
              refine x_goto (tgt := 52) C dX1_take_84 rfl ?_
              obtain ⟨n17, hl18, h⟩ := h
              refine x_sub [0, 1, 2, 3, 4] rfl ?_
              exact ih10 n17 hl18 _ _ h
        exact L10 n010 0 (up2 σ4 4 v2_4.toNat (z8 - 48)) h010
  exact L4 n04 0 (up2 σ 3 2 (min (z1 / 10) 6)) h04
abbrev rm_X1_size : Room := { frames := 0, cells := 0, slots := 0, locals := 0 }
def vc_X1_size (σ : GS)  (Post : Int → Prop) : Prop :=
  Post (σ 3 2)
set_option maxHeartbeats 4000000 in
set_option maxRecDepth 10000 in
theorem m_X1_size (l : Launch) {ad : Nat → Nat} {D : va_G} {cI cZ cG : ClassId} (hI : Ij ad) {σ : GS}  {Post : Int → Prop} (h : vc_X1_size σ  Post) : Met l yX1_size (wX yX1_size cX1_size 1 (some .int)) rm_X1_size (va_Pc [.ref (ad 3)] (Wd ad D cI cZ cG σ)) (QI ad D cI cZ cG (fun z u => u = σ ∧ Post z)) 0 0 (Aw ad) := by
  refine met_V (own := RX1) hI (by decide +kernel) rfl (Nat.le_of_ble_eq_true rfl) ?_
  intro p e s m args below meth c C
  unfold vc_X1_size at h
  show V p l e rm_X1_size s m args below meth c ad D cI cZ cG (Aw ad) 1 0 0 (MQ below (QI ad D cI cZ cG (fun z u => u = σ ∧ Post z)) args s 0 0 (Aw ad)) σ 0 [(0, .ref (ad 3))] []
  refine x_aload_n (q := 1) (i := 0) C dX1_size_0 rfl 0 rfl rfl ?_
  refine x_getI (q := 4) C (Nat.le_of_ble_eq_true rfl) ly_3 fk_RX1_30 rfl dX1_size_1 rfl ?_
  exact x_iret C dX1_size_4 ⟨rfl, h⟩
abbrev rm_X1_has : Room := { frames := 0, cells := 0, slots := 0, locals := 0 }
def vc_X1_has (σ : GS) (a0 : Int) (Post : Int → Prop) : Prop :=
  (rg a0) ∧
  ((a0 < 0 →
    (Post 0)) ∧
  (¬ a0 < 0 →
    ((rg (σ 3 2)) ∧
    (((σ 3 2) ≤ a0 →
      (Post 0)) ∧
    (¬ (σ 3 2) ≤ a0 →
      (Post 1))))))
set_option maxHeartbeats 4000000 in
set_option maxRecDepth 10000 in
theorem m_X1_has (l : Launch) {ad : Nat → Nat} {D : va_G} {cI cZ cG : ClassId} (hI : Ij ad) {σ : GS} {a0 : Int} {Post : Int → Prop} (h : vc_X1_has σ a0 Post) : Met l yX1_has (wX yX1_has cX1_has 2 (some .boolean)) rm_X1_has (va_Pc [.ref (ad 3), .int (iI a0)] (Wd ad D cI cZ cG σ)) (QI ad D cI cZ cG (fun z u => u = σ ∧ Post z)) 0 0 (Aw ad) := by
  refine met_V (own := RX1) hI (by decide +kernel) rfl (Nat.le_of_ble_eq_true rfl) ?_
  intro p e s m args below meth c C
  unfold vc_X1_has at h
  show V p l e rm_X1_has s m args below meth c ad D cI cZ cG (Aw ad) 2 0 0 (MQ below (QI ad D cI cZ cG (fun z u => u = σ ∧ Post z)) args s 0 0 (Aw ad)) σ 0 [(0, .ref (ad 3)), (1, .int (iI a0))] []
  refine x_iload_n (q := 1) (i := 1) C dX1_has_0 rfl 1 rfl rfl ?_
  obtain ⟨o1, h⟩ := h
  refine x_if_lt (q := 4) (tgt := 16) C dX1_has_1 rfl o1 rfl (fun c2 => ?_) (fun c2 => ?_)
  · have h := h.1 c2
    refine x_iconst (q := 17) (z := 0) C dX1_has_16 rfl rfl ?_
    exact x_zret C dX1_has_17 (by decide) ⟨rfl, h⟩
  · have h := h.2 c2
    refine x_iload_n (q := 5) (i := 1) C dX1_has_4 rfl 1 rfl rfl ?_
    refine x_aload_n (q := 6) (i := 0) C dX1_has_5 rfl 0 rfl rfl ?_
    refine x_getI (q := 9) C (Nat.le_of_ble_eq_true rfl) ly_3 fk_RX1_30 rfl dX1_has_6 rfl ?_
    obtain ⟨o3, h⟩ := h
    refine x_icmp_ge (q := 12) (tgt := 16) C dX1_has_9 rfl ⟨o1, o3⟩ rfl (fun c4 => ?_) (fun c4 => ?_)
    · have h := h.1 c4
      refine x_iconst (q := 17) (z := 0) C dX1_has_16 rfl rfl ?_
      exact x_zret C dX1_has_17 (by decide) ⟨rfl, h⟩
    · have h := h.2 c4
      refine x_iconst (q := 13) (z := 1) C dX1_has_12 rfl rfl ?_
      refine x_goto (tgt := 17) C dX1_has_13 rfl ?_
      exact x_zret C dX1_has_17 (by decide) ⟨rfl, h⟩
abbrev rm_X1_hasGap : Room := { frames := 0, cells := 0, slots := 0, locals := 0 }
def vc_X1_hasGap (σ : GS) (a0 : Int) (Post : Int → Prop) : Prop :=
  (rg a0) ∧
  ((a0 < 0 →
    (Post 0)) ∧
  (¬ a0 < 0 →
    ((rg ((σ 3 2) - 1)) ∧
    ((((σ 3 2) - 1) ≤ a0 →
      (Post 0)) ∧
    (¬ ((σ 3 2) - 1) ≤ a0 →
      (Post 1))))))
set_option maxHeartbeats 4000000 in
set_option maxRecDepth 10000 in
theorem m_X1_hasGap (l : Launch) {ad : Nat → Nat} {D : va_G} {cI cZ cG : ClassId} (hI : Ij ad) {σ : GS} {a0 : Int} {Post : Int → Prop} (h : vc_X1_hasGap σ a0 Post) : Met l yX1_hasGap (wX yX1_hasGap cX1_hasGap 2 (some .boolean)) rm_X1_hasGap (va_Pc [.ref (ad 3), .int (iI a0)] (Wd ad D cI cZ cG σ)) (QI ad D cI cZ cG (fun z u => u = σ ∧ Post z)) 0 0 (Aw ad) := by
  refine met_V (own := RX1) hI (by decide +kernel) rfl (Nat.le_of_ble_eq_true rfl) ?_
  intro p e s m args below meth c C
  unfold vc_X1_hasGap at h
  show V p l e rm_X1_hasGap s m args below meth c ad D cI cZ cG (Aw ad) 2 0 0 (MQ below (QI ad D cI cZ cG (fun z u => u = σ ∧ Post z)) args s 0 0 (Aw ad)) σ 0 [(0, .ref (ad 3)), (1, .int (iI a0))] []
  refine x_iload_n (q := 1) (i := 1) C dX1_hasGap_0 rfl 1 rfl rfl ?_
  obtain ⟨o1, h⟩ := h
  refine x_if_lt (q := 4) (tgt := 18) C dX1_hasGap_1 rfl o1 rfl (fun c2 => ?_) (fun c2 => ?_)
  · have h := h.1 c2
    refine x_iconst (q := 19) (z := 0) C dX1_hasGap_18 rfl rfl ?_
    exact x_zret C dX1_hasGap_19 (by decide) ⟨rfl, h⟩
  · have h := h.2 c2
    refine x_iload_n (q := 5) (i := 1) C dX1_hasGap_4 rfl 1 rfl rfl ?_
    refine x_aload_n (q := 6) (i := 0) C dX1_hasGap_5 rfl 0 rfl rfl ?_
    refine x_getI (q := 9) C (Nat.le_of_ble_eq_true rfl) ly_3 fk_RX1_30 rfl dX1_hasGap_6 rfl ?_
    refine x_iconst (q := 10) (z := 1) C dX1_hasGap_9 rfl rfl ?_
    refine x_isub (q := 11) C dX1_hasGap_10  rfl ?_
    obtain ⟨o3, h⟩ := h
    refine x_icmp_ge (q := 14) (tgt := 18) C dX1_hasGap_11 rfl ⟨o1, o3⟩ rfl (fun c4 => ?_) (fun c4 => ?_)
    · have h := h.1 c4
      refine x_iconst (q := 19) (z := 0) C dX1_hasGap_18 rfl rfl ?_
      exact x_zret C dX1_hasGap_19 (by decide) ⟨rfl, h⟩
    · have h := h.2 c4
      refine x_iconst (q := 15) (z := 1) C dX1_hasGap_14 rfl rfl ?_
      refine x_goto (tgt := 19) C dX1_hasGap_15 rfl ?_
      exact x_zret C dX1_hasGap_19 (by decide) ⟨rfl, h⟩
abbrev rm_X1_canPart : Room := { frames := 0, cells := 0, slots := 0, locals := 0 }
def vc_X1_canPart (σ : GS) (a0 : Int) (Post : Int → Prop) : Prop :=
  (rg a0) ∧
  ((a0 < 0 →
    (Post 0)) ∧
  (¬ a0 < 0 →
    ((rg ((σ 3 2) - 1)) ∧
    ((((σ 3 2) - 1) ≤ a0 →
      (Post 0)) ∧
    (¬ ((σ 3 2) - 1) ≤ a0 →
      ((0 ≤ a0 ∧ a0 < 6) ∧
      ((rg (σ 4 a0.toNat)) ∧
      (((σ 4 a0.toNat) = 3 →
        (Post 0)) ∧
      (¬ (σ 4 a0.toNat) = 3 →
        (Post 1))))))))))
set_option maxHeartbeats 4000000 in
set_option maxRecDepth 10000 in
theorem m_X1_canPart (l : Launch) {ad : Nat → Nat} {D : va_G} {cI cZ cG : ClassId} (hI : Ij ad) {σ : GS} {a0 : Int} {Post : Int → Prop} (h : vc_X1_canPart σ a0 Post) : Met l yX1_canPart (wX yX1_canPart cX1_canPart 2 (some .boolean)) rm_X1_canPart (va_Pc [.ref (ad 3), .int (iI a0)] (Wd ad D cI cZ cG σ)) (QI ad D cI cZ cG (fun z u => u = σ ∧ Post z)) 0 0 (Aw ad) := by
  refine met_V (own := RX1) hI (by decide +kernel) rfl (Nat.le_of_ble_eq_true rfl) ?_
  intro p e s m args below meth c C
  unfold vc_X1_canPart at h
  show V p l e rm_X1_canPart s m args below meth c ad D cI cZ cG (Aw ad) 2 0 0 (MQ below (QI ad D cI cZ cG (fun z u => u = σ ∧ Post z)) args s 0 0 (Aw ad)) σ 0 [(0, .ref (ad 3)), (1, .int (iI a0))] []
  refine x_iload_n (q := 1) (i := 1) C dX1_canPart_0 rfl 1 rfl rfl ?_
  obtain ⟨o1, h⟩ := h
  refine x_if_lt (q := 4) (tgt := 28) C dX1_canPart_1 rfl o1 rfl (fun c2 => ?_) (fun c2 => ?_)
  · have h := h.1 c2
    refine x_iconst (q := 29) (z := 0) C dX1_canPart_28 rfl rfl ?_
    exact x_zret C dX1_canPart_29 (by decide) ⟨rfl, h⟩
  · have h := h.2 c2
    refine x_iload_n (q := 5) (i := 1) C dX1_canPart_4 rfl 1 rfl rfl ?_
    refine x_aload_n (q := 6) (i := 0) C dX1_canPart_5 rfl 0 rfl rfl ?_
    refine x_getI (q := 9) C (Nat.le_of_ble_eq_true rfl) ly_3 fk_RX1_30 rfl dX1_canPart_6 rfl ?_
    refine x_iconst (q := 10) (z := 1) C dX1_canPart_9 rfl rfl ?_
    refine x_isub (q := 11) C dX1_canPart_10  rfl ?_
    obtain ⟨o3, h⟩ := h
    refine x_icmp_ge (q := 14) (tgt := 28) C dX1_canPart_11 rfl ⟨o1, o3⟩ rfl (fun c4 => ?_) (fun c4 => ?_)
    · have h := h.1 c4
      refine x_iconst (q := 29) (z := 0) C dX1_canPart_28 rfl rfl ?_
      exact x_zret C dX1_canPart_29 (by decide) ⟨rfl, h⟩
    · have h := h.2 c4
      refine x_aload_n (q := 15) (i := 0) C dX1_canPart_14 rfl 0 rfl rfl ?_
      refine x_getR (q := 18) (c0 := 4) C (Nat.le_of_ble_eq_true rfl) ly_3 fk_RX1_9 rfl dX1_canPart_15 rfl ?_
      refine x_iload_n (q := 19) (i := 1) C dX1_canPart_18 rfl 1 rfl rfl ?_
      obtain ⟨o5, h⟩ := h
      refine x_iald (q := 20) C (Nat.le_of_ble_eq_true rfl) ly_4 dX1_canPart_19 (ix o5 rfl) (Nat.le_of_ble_eq_true rfl) rfl ?_
      refine x_iconst (q := 21) (z := 3) C dX1_canPart_20 rfl rfl ?_
      obtain ⟨o6, h⟩ := h
      refine x_icmp_eq (q := 24) (tgt := 28) C dX1_canPart_21 rfl ⟨o6, by decide⟩ rfl (fun c7 => ?_) (fun c7 => ?_)
      · have h := h.1 c7
        refine x_iconst (q := 29) (z := 0) C dX1_canPart_28 rfl rfl ?_
        exact x_zret C dX1_canPart_29 (by decide) ⟨rfl, h⟩
      · have h := h.2 c7
        refine x_iconst (q := 25) (z := 1) C dX1_canPart_24 rfl rfl ?_
        refine x_goto (tgt := 29) C dX1_canPart_25 rfl ?_
        exact x_zret C dX1_canPart_29 (by decide) ⟨rfl, h⟩
abbrev rm_X1_kindOf : Room := { frames := 0, cells := 0, slots := 0, locals := 0 }
def vc_X1_kindOf (σ : GS) (a0 : Int) (Post : Int → Prop) : Prop :=
  (rg a0) ∧
  ((a0 < 0 →
    (Post (-9))) ∧
  (¬ a0 < 0 →
    ((rg (σ 3 2)) ∧
    (((σ 3 2) ≤ a0 →
      (Post (-9))) ∧
    (¬ (σ 3 2) ≤ a0 →
      ((0 ≤ a0 ∧ a0 < 6) ∧
      (Post (σ 4 a0.toNat))))))))
set_option maxHeartbeats 4000000 in
set_option maxRecDepth 10000 in
theorem m_X1_kindOf (l : Launch) {ad : Nat → Nat} {D : va_G} {cI cZ cG : ClassId} (hI : Ij ad) {σ : GS} {a0 : Int} {Post : Int → Prop} (h : vc_X1_kindOf σ a0 Post) : Met l yX1_kindOf (wX yX1_kindOf cX1_kindOf 2 (some .int)) rm_X1_kindOf (va_Pc [.ref (ad 3), .int (iI a0)] (Wd ad D cI cZ cG σ)) (QI ad D cI cZ cG (fun z u => u = σ ∧ Post z)) 0 0 (Aw ad) := by
  refine met_V (own := RX1) hI (by decide +kernel) rfl (Nat.le_of_ble_eq_true rfl) ?_
  intro p e s m args below meth c C
  unfold vc_X1_kindOf at h
  show V p l e rm_X1_kindOf s m args below meth c ad D cI cZ cG (Aw ad) 2 0 0 (MQ below (QI ad D cI cZ cG (fun z u => u = σ ∧ Post z)) args s 0 0 (Aw ad)) σ 0 [(0, .ref (ad 3)), (1, .int (iI a0))] []
  refine x_iload_n (q := 1) (i := 1) C dX1_kindOf_0 rfl 1 rfl rfl ?_
  obtain ⟨o1, h⟩ := h
  refine x_if_lt (q := 4) (tgt := 21) C dX1_kindOf_1 rfl o1 rfl (fun c2 => ?_) (fun c2 => ?_)
  · have h := h.1 c2
    refine x_bipush (q := 23) (z := (-9)) C dX1_kindOf_21 rfl rfl ?_
    exact x_iret C dX1_kindOf_23 ⟨rfl, h⟩
  · have h := h.2 c2
    refine x_iload_n (q := 5) (i := 1) C dX1_kindOf_4 rfl 1 rfl rfl ?_
    refine x_aload_n (q := 6) (i := 0) C dX1_kindOf_5 rfl 0 rfl rfl ?_
    refine x_getI (q := 9) C (Nat.le_of_ble_eq_true rfl) ly_3 fk_RX1_30 rfl dX1_kindOf_6 rfl ?_
    obtain ⟨o3, h⟩ := h
    refine x_icmp_ge (q := 12) (tgt := 21) C dX1_kindOf_9 rfl ⟨o1, o3⟩ rfl (fun c4 => ?_) (fun c4 => ?_)
    · have h := h.1 c4
      refine x_bipush (q := 23) (z := (-9)) C dX1_kindOf_21 rfl rfl ?_
      exact x_iret C dX1_kindOf_23 ⟨rfl, h⟩
    · have h := h.2 c4
      refine x_aload_n (q := 13) (i := 0) C dX1_kindOf_12 rfl 0 rfl rfl ?_
      refine x_getR (q := 16) (c0 := 4) C (Nat.le_of_ble_eq_true rfl) ly_3 fk_RX1_9 rfl dX1_kindOf_13 rfl ?_
      refine x_iload_n (q := 17) (i := 1) C dX1_kindOf_16 rfl 1 rfl rfl ?_
      obtain ⟨o5, h⟩ := h
      refine x_iald (q := 18) C (Nat.le_of_ble_eq_true rfl) ly_4 dX1_kindOf_17 (ix o5 rfl) (Nat.le_of_ble_eq_true rfl) rfl ?_
      refine x_goto (tgt := 23) C dX1_kindOf_18 rfl ?_
      exact x_iret C dX1_kindOf_23 ⟨rfl, h⟩
abbrev rm_X1_widthOf : Room := { frames := 1, cells := 0, slots := 0, locals := 21 }
def vc_X1_widthOf (σ : GS) (a0 : Int) (Post : Int → Prop) : Prop :=
  vc_X1_kindOf σ a0 (fun (z1 : Int) =>
    (rg z1) ∧
  ((¬ z1 = 2 →
    (Post 4)) ∧
  (z1 = 2 →
    (Post 2))))
set_option maxHeartbeats 4000000 in
set_option maxRecDepth 10000 in
theorem m_X1_widthOf (l : Launch) {ad : Nat → Nat} {D : va_G} {cI cZ cG : ClassId} (hI : Ij ad) {σ : GS} {a0 : Int} {Post : Int → Prop} (h : vc_X1_widthOf σ a0 Post) : Met l yX1_widthOf (wX yX1_widthOf cX1_widthOf 2 (some .int)) rm_X1_widthOf (va_Pc [.ref (ad 3), .int (iI a0)] (Wd ad D cI cZ cG σ)) (QI ad D cI cZ cG (fun z u => u = σ ∧ Post z)) 0 0 (Aw ad) := by
  refine met_V (own := RX1) hI (by decide +kernel) rfl (Nat.le_of_ble_eq_true rfl) ?_
  intro p e s m args below meth c C
  unfold vc_X1_widthOf at h
  show V p l e rm_X1_widthOf s m args below meth c ad D cI cZ cG (Aw ad) 2 0 0 (MQ below (QI ad D cI cZ cG (fun z u => u = σ ∧ Post z)) args s 0 0 (Aw ad)) σ 0 [(0, .ref (ad 3)), (1, .int (iI a0))] []
  refine x_aload_n (q := 1) (i := 0) C dX1_widthOf_0 rfl 0 rfl rfl ?_
  refine x_iload_n (q := 2) (i := 1) C dX1_widthOf_1 rfl 1 rfl rfl ?_
  refine x_virI (q := 5) C (Nat.le_of_ble_eq_true rfl) ly_3 rfl ck_RX1_38 vk_X1_kindOf (m_X1_kindOf l hI h) ⟨⟨rfl, rfl⟩, ⟨Nat.le_of_ble_eq_true rfl, Nat.le_of_ble_eq_true rfl⟩, ⟨Nat.zero_le _, Nat.zero_le _⟩⟩ dX1_widthOf_2 rfl rfl (Nat.le_of_ble_eq_true rfl) rfl (fun z1 σ1 h => ?_)
  rw [h.1]
  have h := h.2
  refine x_iconst (q := 6) (z := 2) C dX1_widthOf_5 rfl rfl ?_
  obtain ⟨o2, h⟩ := h
  refine x_icmp_ne (q := 9) (tgt := 13) C dX1_widthOf_6 rfl ⟨o2, by decide⟩ rfl (fun c3 => ?_) (fun c3 => ?_)
  · have h := h.1 c3
    refine x_iconst (q := 14) (z := 4) C dX1_widthOf_13 rfl rfl ?_
    exact x_iret C dX1_widthOf_14 ⟨rfl, h⟩
  · have h := h.2 c3
    refine x_iconst (q := 10) (z := 2) C dX1_widthOf_9 rfl rfl ?_
    refine x_goto (tgt := 14) C dX1_widthOf_10 rfl ?_
    exact x_iret C dX1_widthOf_14 ⟨rfl, h⟩
abbrev rm_X1_isSolid : Room := { frames := 0, cells := 0, slots := 0, locals := 0 }
def vc_X1_isSolid (σ : GS) (a0 : Int) (a1 : Int) (Post : Int → Prop) : Prop :=
  (rg a0) ∧
  ((a0 < 0 →
    (Post 0)) ∧
  (¬ a0 < 0 →
    ((rg (σ 3 2)) ∧
    (((σ 3 2) ≤ a0 →
      (Post 0)) ∧
    (¬ (σ 3 2) ≤ a0 →
      ((rg a1) ∧
      ((a1 < 0 →
        (Post 0)) ∧
      (¬ a1 < 0 →
        ((a1 < 4 →
          ((0 ≤ a0 ∧ a0 < 6) ∧
          ((rg (σ 4 a0.toNat)) ∧
          (((σ 4 a0.toNat) = 1 →
            ((0 ≤ a1 ∧ a1 ≤ 2147483647) ∧
            ((rg (a1 % 2)) ∧
            ((¬ (a1 % 2) = 0 →
              (Post 0)) ∧
            ((a1 % 2) = 0 →
              (Post 1)))))) ∧
          ((σ 4 a0.toNat) = 2 →
            (((2 : Int) ≤ a1 →
              (Post 0)) ∧
            (¬ (2 : Int) ≤ a1 →
              (Post 1)))) ∧
          ((σ 4 a0.toNat) ≠ 1 → (σ 4 a0.toNat) ≠ 2 →
            (Post 1)))))) ∧
        (¬ a1 < 4 →
          (Post 0)))))))))))
set_option maxHeartbeats 4000000 in
set_option maxRecDepth 10000 in
theorem m_X1_isSolid (l : Launch) {ad : Nat → Nat} {D : va_G} {cI cZ cG : ClassId} (hI : Ij ad) {σ : GS} {a0 : Int} {a1 : Int} {Post : Int → Prop} (h : vc_X1_isSolid σ a0 a1 Post) : Met l yX1_isSolid (wX yX1_isSolid cX1_isSolid 3 (some .boolean)) rm_X1_isSolid (va_Pc [.ref (ad 3), .int (iI a0), .int (iI a1)] (Wd ad D cI cZ cG σ)) (QI ad D cI cZ cG (fun z u => u = σ ∧ Post z)) 0 0 (Aw ad) := by
  refine met_V (own := RX1) hI (by decide +kernel) rfl (Nat.le_of_ble_eq_true rfl) ?_
  intro p e s m args below meth c C
  unfold vc_X1_isSolid at h
  show V p l e rm_X1_isSolid s m args below meth c ad D cI cZ cG (Aw ad) 3 0 0 (MQ below (QI ad D cI cZ cG (fun z u => u = σ ∧ Post z)) args s 0 0 (Aw ad)) σ 0 [(0, .ref (ad 3)), (1, .int (iI a0)), (2, .int (iI a1))] []
  refine x_iload_n (q := 1) (i := 1) C dX1_isSolid_0 rfl 1 rfl rfl ?_
  obtain ⟨o1, h⟩ := h
  refine x_if_lt (q := 4) (tgt := 21) C dX1_isSolid_1 rfl o1 rfl (fun c2 => ?_) (fun c2 => ?_)
  · have h := h.1 c2
    refine x_iconst (q := 22) (z := 0) C dX1_isSolid_21 rfl rfl ?_
    exact x_zret C dX1_isSolid_22 (by decide) ⟨rfl, h⟩
  · have h := h.2 c2
    refine x_iload_n (q := 5) (i := 1) C dX1_isSolid_4 rfl 1 rfl rfl ?_
    refine x_aload_n (q := 6) (i := 0) C dX1_isSolid_5 rfl 0 rfl rfl ?_
    refine x_getI (q := 9) C (Nat.le_of_ble_eq_true rfl) ly_3 fk_RX1_30 rfl dX1_isSolid_6 rfl ?_
    obtain ⟨o3, h⟩ := h
    refine x_icmp_ge (q := 12) (tgt := 21) C dX1_isSolid_9 rfl ⟨o1, o3⟩ rfl (fun c4 => ?_) (fun c4 => ?_)
    · have h := h.1 c4
      refine x_iconst (q := 22) (z := 0) C dX1_isSolid_21 rfl rfl ?_
      exact x_zret C dX1_isSolid_22 (by decide) ⟨rfl, h⟩
    · have h := h.2 c4
      refine x_iload_n (q := 13) (i := 2) C dX1_isSolid_12 rfl 2 rfl rfl ?_
      obtain ⟨o5, h⟩ := h
      refine x_if_lt (q := 16) (tgt := 21) C dX1_isSolid_13 rfl o5 rfl (fun c6 => ?_) (fun c6 => ?_)
      · have h := h.1 c6
        refine x_iconst (q := 22) (z := 0) C dX1_isSolid_21 rfl rfl ?_
        exact x_zret C dX1_isSolid_22 (by decide) ⟨rfl, h⟩
      · have h := h.2 c6
        refine x_iload_n (q := 17) (i := 2) C dX1_isSolid_16 rfl 2 rfl rfl ?_
        refine x_iconst (q := 18) (z := 4) C dX1_isSolid_17 rfl rfl ?_
        refine x_icmp_lt (q := 21) (tgt := 23) C dX1_isSolid_18 rfl ⟨o5, by decide⟩ rfl (fun c7 => ?_) (fun c7 => ?_)
        · have h := h.1 c7
          refine x_aload_n (q := 24) (i := 0) C dX1_isSolid_23 rfl 0 rfl rfl ?_
          refine x_getR (q := 27) (c0 := 4) C (Nat.le_of_ble_eq_true rfl) ly_3 fk_RX1_9 rfl dX1_isSolid_24 rfl ?_
          refine x_iload_n (q := 28) (i := 1) C dX1_isSolid_27 rfl 1 rfl rfl ?_
          obtain ⟨o8, h⟩ := h
          refine x_iald (q := 29) C (Nat.le_of_ble_eq_true rfl) ly_4 dX1_isSolid_28 (ix o8 rfl) (Nat.le_of_ble_eq_true rfl) rfl ?_
          obtain ⟨o9, h⟩ := h
          refine x_lookup2 C dX1_isSolid_29 o9 (by decide) 79 56 68 rfl rfl rfl (fun c10 => ?_) (fun c10 => ?_) (fun c10 c10' => ?_)
          · have h := h.1 c10
            refine x_iload_n (q := 57) (i := 2) C dX1_isSolid_56 rfl 2 rfl rfl ?_
            refine x_iconst (q := 58) (z := 2) C dX1_isSolid_57 rfl rfl ?_
            obtain ⟨o11, h⟩ := h
            refine x_irem (q := 59) C dX1_isSolid_58 ⟨o11, by decide⟩ rfl ?_
            obtain ⟨o12, h⟩ := h
            refine x_if_ne (q := 62) (tgt := 66) C dX1_isSolid_59 rfl o12 rfl (fun c13 => ?_) (fun c13 => ?_)
            · have h := h.1 c13
              refine x_iconst (q := 67) (z := 0) C dX1_isSolid_66 rfl rfl ?_
              exact x_zret C dX1_isSolid_67 (by decide) ⟨rfl, h⟩
            · have h := h.2 c13
              refine x_iconst (q := 63) (z := 1) C dX1_isSolid_62 rfl rfl ?_
              refine x_goto (tgt := 67) C dX1_isSolid_63 rfl ?_
              exact x_zret C dX1_isSolid_67 (by decide) ⟨rfl, h⟩
          · have h := h.2.1 c10
            refine x_iload_n (q := 69) (i := 2) C dX1_isSolid_68 rfl 2 rfl rfl ?_
            refine x_iconst (q := 70) (z := 2) C dX1_isSolid_69 rfl rfl ?_
            refine x_icmp_ge (q := 73) (tgt := 77) C dX1_isSolid_70 rfl ⟨o5, by decide⟩ rfl (fun c14 => ?_) (fun c14 => ?_)
            · have h := h.1 c14
              refine x_iconst (q := 78) (z := 0) C dX1_isSolid_77 rfl rfl ?_
              exact x_zret C dX1_isSolid_78 (by decide) ⟨rfl, h⟩
            · have h := h.2 c14
              refine x_iconst (q := 74) (z := 1) C dX1_isSolid_73 rfl rfl ?_
              refine x_goto (tgt := 78) C dX1_isSolid_74 rfl ?_
              exact x_zret C dX1_isSolid_78 (by decide) ⟨rfl, h⟩
          · have h := h.2.2 c10 c10'
            refine x_iconst (q := 80) (z := 1) C dX1_isSolid_79 rfl rfl ?_
            exact x_zret C dX1_isSolid_80 (by decide) ⟨rfl, h⟩
        · have h := h.2 c7
          refine x_iconst (q := 22) (z := 0) C dX1_isSolid_21 rfl rfl ?_
          exact x_zret C dX1_isSolid_22 (by decide) ⟨rfl, h⟩
abbrev rm_X1_markOf : Room := { frames := 0, cells := 0, slots := 0, locals := 0 }
def vc_X1_markOf (σ : GS) (a0 : Int) (a1 : Int) (a2 : Int) (Post : Int → Prop) : Prop :=
  Post (((a0 * 8) + (a1 * 4)) + a2)
set_option maxHeartbeats 4000000 in
set_option maxRecDepth 10000 in
theorem m_X1_markOf (l : Launch) {ad : Nat → Nat} {D : va_G} {cI cZ cG : ClassId} (hI : Ij ad) {σ : GS} {a0 : Int} {a1 : Int} {a2 : Int} {Post : Int → Prop} (h : vc_X1_markOf σ a0 a1 a2 Post) : Met l yX1_markOf (wX yX1_markOf cX1_markOf 4 (some .int)) rm_X1_markOf (va_Pc [.ref (ad 3), .int (iI a0), .int (iI a1), .int (iI a2)] (Wd ad D cI cZ cG σ)) (QI ad D cI cZ cG (fun z u => u = σ ∧ Post z)) 0 0 (Aw ad) := by
  refine met_V (own := RX1) hI (by decide +kernel) rfl (Nat.le_of_ble_eq_true rfl) ?_
  intro p e s m args below meth c C
  unfold vc_X1_markOf at h
  show V p l e rm_X1_markOf s m args below meth c ad D cI cZ cG (Aw ad) 4 0 0 (MQ below (QI ad D cI cZ cG (fun z u => u = σ ∧ Post z)) args s 0 0 (Aw ad)) σ 0 [(0, .ref (ad 3)), (1, .int (iI a0)), (2, .int (iI a1)), (3, .int (iI a2))] []
  refine x_iload_n (q := 1) (i := 1) C dX1_markOf_0 rfl 1 rfl rfl ?_
  refine x_bipush (q := 3) (z := 8) C dX1_markOf_1 rfl rfl ?_
  refine x_imul (q := 4) C dX1_markOf_3  rfl ?_
  refine x_iload_n (q := 5) (i := 2) C dX1_markOf_4 rfl 2 rfl rfl ?_
  refine x_iconst (q := 6) (z := 4) C dX1_markOf_5 rfl rfl ?_
  refine x_imul (q := 7) C dX1_markOf_6  rfl ?_
  refine x_iadd (q := 8) C dX1_markOf_7  rfl ?_
  refine x_iload_n (q := 9) (i := 3) C dX1_markOf_8 rfl 3 rfl rfl ?_
  refine x_iadd (q := 10) C dX1_markOf_9  rfl ?_
  exact x_iret C dX1_markOf_10 ⟨rfl, h⟩
abbrev rm_X1_letterOf : Room := { frames := 0, cells := 0, slots := 0, locals := 0 }
def vc_X1_letterOf (σ : GS) (a0 : Int) (Post : Int → Prop) : Prop :=
  (rg a0) ∧
  ((a0 < 0 →
    (Post (-9))) ∧
  (¬ a0 < 0 →
    ((rg ((48 : Nat) : Int)) ∧
    ((((48 : Nat) : Int) ≤ a0 →
      (Post (-9))) ∧
    (¬ ((48 : Nat) : Int) ≤ a0 →
      ((0 ≤ a0 ∧ a0 < 48) ∧
      (Post (σ 5 a0.toNat))))))))
set_option maxHeartbeats 4000000 in
set_option maxRecDepth 10000 in
theorem m_X1_letterOf (l : Launch) {ad : Nat → Nat} {D : va_G} {cI cZ cG : ClassId} (hI : Ij ad) {σ : GS} {a0 : Int} {Post : Int → Prop} (h : vc_X1_letterOf σ a0 Post) : Met l yX1_letterOf (wX yX1_letterOf cX1_letterOf 2 (some .int)) rm_X1_letterOf (va_Pc [.ref (ad 3), .int (iI a0)] (Wd ad D cI cZ cG σ)) (QI ad D cI cZ cG (fun z u => u = σ ∧ Post z)) 0 0 (Aw ad) := by
  refine met_V (own := RX1) hI (by decide +kernel) rfl (Nat.le_of_ble_eq_true rfl) ?_
  intro p e s m args below meth c C
  unfold vc_X1_letterOf at h
  show V p l e rm_X1_letterOf s m args below meth c ad D cI cZ cG (Aw ad) 2 0 0 (MQ below (QI ad D cI cZ cG (fun z u => u = σ ∧ Post z)) args s 0 0 (Aw ad)) σ 0 [(0, .ref (ad 3)), (1, .int (iI a0))] []
  refine x_iload_n (q := 1) (i := 1) C dX1_letterOf_0 rfl 1 rfl rfl ?_
  obtain ⟨o1, h⟩ := h
  refine x_if_lt (q := 4) (tgt := 22) C dX1_letterOf_1 rfl o1 rfl (fun c2 => ?_) (fun c2 => ?_)
  · have h := h.1 c2
    refine x_bipush (q := 24) (z := (-9)) C dX1_letterOf_22 rfl rfl ?_
    exact x_iret C dX1_letterOf_24 ⟨rfl, h⟩
  · have h := h.2 c2
    refine x_iload_n (q := 5) (i := 1) C dX1_letterOf_4 rfl 1 rfl rfl ?_
    refine x_aload_n (q := 6) (i := 0) C dX1_letterOf_5 rfl 0 rfl rfl ?_
    refine x_getR (q := 9) (c0 := 5) C (Nat.le_of_ble_eq_true rfl) ly_3 fk_RX1_15 rfl dX1_letterOf_6 rfl ?_
    refine x_alen (q := 10) C (Nat.le_of_ble_eq_true rfl) ly_5 dX1_letterOf_9 rfl ?_
    obtain ⟨o3, h⟩ := h
    refine x_icmp_ge (q := 13) (tgt := 22) C dX1_letterOf_10 rfl ⟨o1, o3⟩ rfl (fun c4 => ?_) (fun c4 => ?_)
    · have h := h.1 c4
      refine x_bipush (q := 24) (z := (-9)) C dX1_letterOf_22 rfl rfl ?_
      exact x_iret C dX1_letterOf_24 ⟨rfl, h⟩
    · have h := h.2 c4
      refine x_aload_n (q := 14) (i := 0) C dX1_letterOf_13 rfl 0 rfl rfl ?_
      refine x_getR (q := 17) (c0 := 5) C (Nat.le_of_ble_eq_true rfl) ly_3 fk_RX1_15 rfl dX1_letterOf_14 rfl ?_
      refine x_iload_n (q := 18) (i := 1) C dX1_letterOf_17 rfl 1 rfl rfl ?_
      obtain ⟨o5, h⟩ := h
      refine x_iald (q := 19) C (Nat.le_of_ble_eq_true rfl) ly_5 dX1_letterOf_18 (ix o5 rfl) (Nat.le_of_ble_eq_true rfl) rfl ?_
      refine x_goto (tgt := 24) C dX1_letterOf_19 rfl ?_
      exact x_iret C dX1_letterOf_24 ⟨rfl, h⟩
abbrev rm_X2_at : Room := { frames := 0, cells := 0, slots := 0, locals := 0 }
def vc_X2_at (σ : GS) (k0 : Nat) (a0 : Int) (Post : Int → Prop) : Prop :=
  (k0 = 6 ∨ k0 = 8) ∧
  ((rg a0) ∧
  ((a0 < 0 →
    (Post 0)) ∧
  (¬ a0 < 0 →
    (((5 : Int) ≤ a0 →
      (Post 0)) ∧
    (¬ (5 : Int) ≤ a0 →
      ((0 ≤ a0 ∧ a0 < 5) ∧
      (Post (σ (k0 + 1) a0.toNat))))))))
set_option maxHeartbeats 4000000 in
set_option maxRecDepth 10000 in
theorem m_X2_at (l : Launch) {ad : Nat → Nat} {D : va_G} {cI cZ cG : ClassId} (hI : Ij ad) {σ : GS} {k0 : Nat} {a0 : Int} {Post : Int → Prop} (h : vc_X2_at σ k0 a0 Post) : Met l yX2_at (wX yX2_at cX2_at 2 (some .int)) rm_X2_at (va_Pc [.ref (ad k0), .int (iI a0)] (Wd ad D cI cZ cG σ)) (QI ad D cI cZ cG (fun z u => u = σ ∧ Post z)) 0 0 (Aw ad) := by
  refine met_V (own := RX2) hI (by decide +kernel) rfl (Nat.le_of_ble_eq_true rfl) ?_
  intro p e s m args below meth c C
  unfold vc_X2_at at h
  show V p l e rm_X2_at s m args below meth c ad D cI cZ cG (Aw ad) 2 0 0 (MQ below (QI ad D cI cZ cG (fun z u => u = σ ∧ Post z)) args s 0 0 (Aw ad)) σ 0 [(0, .ref (ad k0)), (1, .int (iI a0))] []
  obtain ⟨hp0, h⟩ := h
  have gk0 := gr_lay hp0
  refine x_iload_n (q := 1) (i := 1) C dX2_at_0 rfl 1 rfl rfl ?_
  obtain ⟨o1, h⟩ := h
  refine x_if_lt (q := 4) (tgt := 18) C dX2_at_1 rfl o1 rfl (fun c2 => ?_) (fun c2 => ?_)
  · have h := h.1 c2
    refine x_iconst (q := 19) (z := 0) C dX2_at_18 rfl rfl ?_
    exact x_iret C dX2_at_19 ⟨rfl, h⟩
  · have h := h.2 c2
    refine x_iload_n (q := 5) (i := 1) C dX2_at_4 rfl 1 rfl rfl ?_
    refine x_iconst (q := 6) (z := 5) C dX2_at_5 rfl rfl ?_
    refine x_icmp_ge (q := 9) (tgt := 18) C dX2_at_6 rfl ⟨o1, by decide⟩ rfl (fun c3 => ?_) (fun c3 => ?_)
    · have h := h.1 c3
      refine x_iconst (q := 19) (z := 0) C dX2_at_18 rfl rfl ?_
      exact x_iret C dX2_at_19 ⟨rfl, h⟩
    · have h := h.2 c3
      refine x_aload_n (q := 10) (i := 0) C dX2_at_9 rfl 0 rfl rfl ?_
      refine x_getR (q := 13) (c0 := k0 + 1) C gk0.2.2.1 gk0.1 fk_RX2_9 rfl dX2_at_10 rfl ?_
      refine x_iload_n (q := 14) (i := 1) C dX2_at_13 rfl 1 rfl rfl ?_
      obtain ⟨o4, h⟩ := h
      refine x_iald (q := 15) C gk0.2.2.2 gk0.2.1 dX2_at_14 (ix o4 rfl) (Nat.le_of_ble_eq_true rfl) rfl ?_
      refine x_goto (tgt := 19) C dX2_at_15 rfl ?_
      exact x_iret C dX2_at_19 ⟨rfl, h⟩
abbrev rm_X2_canWiden : Room := { frames := 1, cells := 0, slots := 0, locals := 21 }
def vc_X2_canWiden (σ : GS) (k0 : Nat) (a0 : Int) (Post : Int → Prop) : Prop :=
  (k0 = 6 ∨ k0 = 8) ∧
  (vc_X1_canPart σ a0 (fun (z1 : Int) =>
    (rg z1) ∧
  ((z1 = 0 →
    (Post 0)) ∧
  (¬ z1 = 0 →
    ((0 ≤ a0 ∧ a0 < 5) ∧
    ((rg (σ (k0 + 1) a0.toNat)) ∧
    (((4 : Int) ≤ (σ (k0 + 1) a0.toNat) →
      (Post 0)) ∧
    (¬ (4 : Int) ≤ (σ (k0 + 1) a0.toNat) →
      (Post 1)))))))))
set_option maxHeartbeats 4000000 in
set_option maxRecDepth 10000 in
theorem m_X2_canWiden (l : Launch) {ad : Nat → Nat} {D : va_G} {cI cZ cG : ClassId} (hI : Ij ad) {σ : GS} {k0 : Nat} {a0 : Int} {Post : Int → Prop} (h : vc_X2_canWiden σ k0 a0 Post) : Met l yX2_canWiden (wX yX2_canWiden cX2_canWiden 2 (some .boolean)) rm_X2_canWiden (va_Pc [.ref (ad k0), .int (iI a0)] (Wd ad D cI cZ cG σ)) (QI ad D cI cZ cG (fun z u => u = σ ∧ Post z)) 0 0 (Aw ad) := by
  refine met_V (own := RX2) hI (by decide +kernel) rfl (Nat.le_of_ble_eq_true rfl) ?_
  intro p e s m args below meth c C
  unfold vc_X2_canWiden at h
  show V p l e rm_X2_canWiden s m args below meth c ad D cI cZ cG (Aw ad) 2 0 0 (MQ below (QI ad D cI cZ cG (fun z u => u = σ ∧ Post z)) args s 0 0 (Aw ad)) σ 0 [(0, .ref (ad k0)), (1, .int (iI a0))] []
  obtain ⟨hp0, h⟩ := h
  have gk0 := gr_lay hp0
  refine x_aload_n (q := 1) (i := 0) C dX2_canWiden_0 rfl 0 rfl rfl ?_
  refine x_getR (q := 4) (c0 := 3) C gk0.2.2.1 gk0.1 fk_RX2_15 rfl dX2_canWiden_1 rfl ?_
  refine x_iload_n (q := 5) (i := 1) C dX2_canWiden_4 rfl 1 rfl rfl ?_
  refine x_virI (q := 8) C (Nat.le_of_ble_eq_true rfl) ly_3 rfl ck_RX2_19 vk_X1_canPart (m_X1_canPart l hI h) ⟨⟨rfl, rfl⟩, ⟨Nat.le_of_ble_eq_true rfl, Nat.le_of_ble_eq_true rfl⟩, ⟨Nat.zero_le _, Nat.zero_le _⟩⟩ dX2_canWiden_5 rfl rfl (Nat.le_of_ble_eq_true rfl) rfl (fun z1 σ1 h => ?_)
  rw [h.1]
  have h := h.2
  obtain ⟨o2, h⟩ := h
  refine x_if_eq (q := 11) (tgt := 25) C dX2_canWiden_8 rfl o2 rfl (fun c3 => ?_) (fun c3 => ?_)
  · have h := h.1 c3
    refine x_iconst (q := 26) (z := 0) C dX2_canWiden_25 rfl rfl ?_
    exact x_zret C dX2_canWiden_26 (by decide) ⟨rfl, h⟩
  · have h := h.2 c3
    refine x_aload_n (q := 12) (i := 0) C dX2_canWiden_11 rfl 0 rfl rfl ?_
    refine x_getR (q := 15) (c0 := k0 + 1) C gk0.2.2.1 gk0.1 fk_RX2_9 rfl dX2_canWiden_12 rfl ?_
    refine x_iload_n (q := 16) (i := 1) C dX2_canWiden_15 rfl 1 rfl rfl ?_
    obtain ⟨o4, h⟩ := h
    refine x_iald (q := 17) C gk0.2.2.2 gk0.2.1 dX2_canWiden_16 (ix o4 rfl) (Nat.le_of_ble_eq_true rfl) rfl ?_
    refine x_iconst (q := 18) (z := 4) C dX2_canWiden_17 rfl rfl ?_
    obtain ⟨o5, h⟩ := h
    refine x_icmp_ge (q := 21) (tgt := 25) C dX2_canWiden_18 rfl ⟨o5, by decide⟩ rfl (fun c6 => ?_) (fun c6 => ?_)
    · have h := h.1 c6
      refine x_iconst (q := 26) (z := 0) C dX2_canWiden_25 rfl rfl ?_
      exact x_zret C dX2_canWiden_26 (by decide) ⟨rfl, h⟩
    · have h := h.2 c6
      refine x_iconst (q := 22) (z := 1) C dX2_canWiden_21 rfl rfl ?_
      refine x_goto (tgt := 26) C dX2_canWiden_22 rfl ?_
      exact x_zret C dX2_canWiden_26 (by decide) ⟨rfl, h⟩
abbrev rm_X2_canNarrow : Room := { frames := 1, cells := 0, slots := 0, locals := 21 }
def vc_X2_canNarrow (σ : GS) (k0 : Nat) (a0 : Int) (Post : Int → Prop) : Prop :=
  (k0 = 6 ∨ k0 = 8) ∧
  (vc_X1_canPart σ a0 (fun (z1 : Int) =>
    (rg z1) ∧
  ((z1 = 0 →
    (Post 0)) ∧
  (¬ z1 = 0 →
    ((0 ≤ a0 ∧ a0 < 5) ∧
    ((rg (σ (k0 + 1) a0.toNat)) ∧
    (((σ (k0 + 1) a0.toNat) ≤ 0 →
      (Post 0)) ∧
    (¬ (σ (k0 + 1) a0.toNat) ≤ 0 →
      (Post 1)))))))))
set_option maxHeartbeats 4000000 in
set_option maxRecDepth 10000 in
theorem m_X2_canNarrow (l : Launch) {ad : Nat → Nat} {D : va_G} {cI cZ cG : ClassId} (hI : Ij ad) {σ : GS} {k0 : Nat} {a0 : Int} {Post : Int → Prop} (h : vc_X2_canNarrow σ k0 a0 Post) : Met l yX2_canNarrow (wX yX2_canNarrow cX2_canNarrow 2 (some .boolean)) rm_X2_canNarrow (va_Pc [.ref (ad k0), .int (iI a0)] (Wd ad D cI cZ cG σ)) (QI ad D cI cZ cG (fun z u => u = σ ∧ Post z)) 0 0 (Aw ad) := by
  refine met_V (own := RX2) hI (by decide +kernel) rfl (Nat.le_of_ble_eq_true rfl) ?_
  intro p e s m args below meth c C
  unfold vc_X2_canNarrow at h
  show V p l e rm_X2_canNarrow s m args below meth c ad D cI cZ cG (Aw ad) 2 0 0 (MQ below (QI ad D cI cZ cG (fun z u => u = σ ∧ Post z)) args s 0 0 (Aw ad)) σ 0 [(0, .ref (ad k0)), (1, .int (iI a0))] []
  obtain ⟨hp0, h⟩ := h
  have gk0 := gr_lay hp0
  refine x_aload_n (q := 1) (i := 0) C dX2_canNarrow_0 rfl 0 rfl rfl ?_
  refine x_getR (q := 4) (c0 := 3) C gk0.2.2.1 gk0.1 fk_RX2_15 rfl dX2_canNarrow_1 rfl ?_
  refine x_iload_n (q := 5) (i := 1) C dX2_canNarrow_4 rfl 1 rfl rfl ?_
  refine x_virI (q := 8) C (Nat.le_of_ble_eq_true rfl) ly_3 rfl ck_RX2_19 vk_X1_canPart (m_X1_canPart l hI h) ⟨⟨rfl, rfl⟩, ⟨Nat.le_of_ble_eq_true rfl, Nat.le_of_ble_eq_true rfl⟩, ⟨Nat.zero_le _, Nat.zero_le _⟩⟩ dX2_canNarrow_5 rfl rfl (Nat.le_of_ble_eq_true rfl) rfl (fun z1 σ1 h => ?_)
  rw [h.1]
  have h := h.2
  obtain ⟨o2, h⟩ := h
  refine x_if_eq (q := 11) (tgt := 24) C dX2_canNarrow_8 rfl o2 rfl (fun c3 => ?_) (fun c3 => ?_)
  · have h := h.1 c3
    refine x_iconst (q := 25) (z := 0) C dX2_canNarrow_24 rfl rfl ?_
    exact x_zret C dX2_canNarrow_25 (by decide) ⟨rfl, h⟩
  · have h := h.2 c3
    refine x_aload_n (q := 12) (i := 0) C dX2_canNarrow_11 rfl 0 rfl rfl ?_
    refine x_getR (q := 15) (c0 := k0 + 1) C gk0.2.2.1 gk0.1 fk_RX2_9 rfl dX2_canNarrow_12 rfl ?_
    refine x_iload_n (q := 16) (i := 1) C dX2_canNarrow_15 rfl 1 rfl rfl ?_
    obtain ⟨o4, h⟩ := h
    refine x_iald (q := 17) C gk0.2.2.2 gk0.2.1 dX2_canNarrow_16 (ix o4 rfl) (Nat.le_of_ble_eq_true rfl) rfl ?_
    obtain ⟨o5, h⟩ := h
    refine x_if_le (q := 20) (tgt := 24) C dX2_canNarrow_17 rfl o5 rfl (fun c6 => ?_) (fun c6 => ?_)
    · have h := h.1 c6
      refine x_iconst (q := 25) (z := 0) C dX2_canNarrow_24 rfl rfl ?_
      exact x_zret C dX2_canNarrow_25 (by decide) ⟨rfl, h⟩
    · have h := h.2 c6
      refine x_iconst (q := 21) (z := 1) C dX2_canNarrow_20 rfl rfl ?_
      refine x_goto (tgt := 25) C dX2_canNarrow_21 rfl ?_
      exact x_zret C dX2_canNarrow_25 (by decide) ⟨rfl, h⟩
abbrev rm_X2_widen : Room := { frames := 2, cells := 0, slots := 0, locals := 42 }
def vc_X2_widen (σ : GS) (k0 : Nat) (a0 : Int) (Post : Int → GS → Prop) : Prop :=
  (k0 = 6 ∨ k0 = 8) ∧
  (vc_X2_canWiden σ k0 a0 (fun (z1 : Int) =>
    (rg z1) ∧
  ((¬ z1 = 0 →
    ((0 ≤ a0 ∧ a0 < 5) ∧
    (Post 1 (up2 σ (k0 + 1) a0.toNat ((σ (k0 + 1) a0.toNat) + 1))))) ∧
  (z1 = 0 →
    (Post 0 σ)))))
set_option maxHeartbeats 4000000 in
set_option maxRecDepth 10000 in
theorem m_X2_widen (l : Launch) {ad : Nat → Nat} {D : va_G} {cI cZ cG : ClassId} (hI : Ij ad) {σ : GS} {k0 : Nat} {a0 : Int} {Post : Int → GS → Prop} (h : vc_X2_widen σ k0 a0 Post) : Met l yX2_widen (wX yX2_widen cX2_widen 2 (some .boolean)) rm_X2_widen (va_Pc [.ref (ad k0), .int (iI a0)] (Wd ad D cI cZ cG σ)) (QI ad D cI cZ cG Post) 0 0 (Aw ad) := by
  refine met_V (own := RX2) hI (by decide +kernel) rfl (Nat.le_of_ble_eq_true rfl) ?_
  intro p e s m args below meth c C
  unfold vc_X2_widen at h
  show V p l e rm_X2_widen s m args below meth c ad D cI cZ cG (Aw ad) 2 0 0 (MQ below (QI ad D cI cZ cG Post) args s 0 0 (Aw ad)) σ 0 [(0, .ref (ad k0)), (1, .int (iI a0))] []
  obtain ⟨hp0, h⟩ := h
  have gk0 := gr_lay hp0
  refine x_aload_n (q := 1) (i := 0) C dX2_widen_0 rfl 0 rfl rfl ?_
  refine x_iload_n (q := 2) (i := 1) C dX2_widen_1 rfl 1 rfl rfl ?_
  refine x_virI (q := 5) C gk0.2.2.1 gk0.1 rfl ck_RX2_25 vk_X2_canWiden (m_X2_canWiden l hI h) ⟨⟨rfl, rfl⟩, ⟨Nat.le_of_ble_eq_true rfl, Nat.le_of_ble_eq_true rfl⟩, ⟨Nat.zero_le _, Nat.zero_le _⟩⟩ dX2_widen_2 rfl rfl (Nat.le_of_ble_eq_true rfl) rfl (fun z1 σ1 h => ?_)
  rw [h.1]
  have h := h.2
  obtain ⟨o2, h⟩ := h
  refine x_if_ne (q := 8) (tgt := 10) C dX2_widen_5 rfl o2 rfl (fun c3 => ?_) (fun c3 => ?_)
  · have h := h.1 c3
    refine x_aload_n (q := 11) (i := 0) C dX2_widen_10 rfl 0 rfl rfl ?_
    refine x_getR (q := 14) (c0 := k0 + 1) C gk0.2.2.1 gk0.1 fk_RX2_9 rfl dX2_widen_11 rfl ?_
    refine x_iload_n (q := 15) (i := 1) C dX2_widen_14 rfl 1 rfl rfl ?_
    refine x_dup2 (q := 16) C dX2_widen_15 rfl rfl rfl ?_
    obtain ⟨o4, h⟩ := h
    refine x_iald (q := 17) C gk0.2.2.2 gk0.2.1 dX2_widen_16 (ix o4 rfl) (Nat.le_of_ble_eq_true rfl) rfl ?_
    refine x_iconst (q := 18) (z := 1) C dX2_widen_17 rfl rfl ?_
    refine x_iadd (q := 19) C dX2_widen_18  rfl ?_
    refine x_iast (q := 20) C gk0.2.2.2 gk0.2.1 dX2_widen_19 (ix o4 rfl) (Nat.le_of_ble_eq_true rfl)  rfl ?_
    refine x_iconst (q := 21) (z := 1) C dX2_widen_20 rfl rfl ?_
    exact x_zret C dX2_widen_21 (by decide) h
  · have h := h.2 c3
    refine x_iconst (q := 9) (z := 0) C dX2_widen_8 rfl rfl ?_
    exact x_zret C dX2_widen_9 (by decide) h
abbrev rm_X2_narrow : Room := { frames := 2, cells := 0, slots := 0, locals := 42 }
def vc_X2_narrow (σ : GS) (k0 : Nat) (a0 : Int) (Post : Int → GS → Prop) : Prop :=
  (k0 = 6 ∨ k0 = 8) ∧
  (vc_X2_canNarrow σ k0 a0 (fun (z1 : Int) =>
    (rg z1) ∧
  ((¬ z1 = 0 →
    ((0 ≤ a0 ∧ a0 < 5) ∧
    (Post 1 (up2 σ (k0 + 1) a0.toNat ((σ (k0 + 1) a0.toNat) - 1))))) ∧
  (z1 = 0 →
    (Post 0 σ)))))
set_option maxHeartbeats 4000000 in
set_option maxRecDepth 10000 in
theorem m_X2_narrow (l : Launch) {ad : Nat → Nat} {D : va_G} {cI cZ cG : ClassId} (hI : Ij ad) {σ : GS} {k0 : Nat} {a0 : Int} {Post : Int → GS → Prop} (h : vc_X2_narrow σ k0 a0 Post) : Met l yX2_narrow (wX yX2_narrow cX2_narrow 2 (some .boolean)) rm_X2_narrow (va_Pc [.ref (ad k0), .int (iI a0)] (Wd ad D cI cZ cG σ)) (QI ad D cI cZ cG Post) 0 0 (Aw ad) := by
  refine met_V (own := RX2) hI (by decide +kernel) rfl (Nat.le_of_ble_eq_true rfl) ?_
  intro p e s m args below meth c C
  unfold vc_X2_narrow at h
  show V p l e rm_X2_narrow s m args below meth c ad D cI cZ cG (Aw ad) 2 0 0 (MQ below (QI ad D cI cZ cG Post) args s 0 0 (Aw ad)) σ 0 [(0, .ref (ad k0)), (1, .int (iI a0))] []
  obtain ⟨hp0, h⟩ := h
  have gk0 := gr_lay hp0
  refine x_aload_n (q := 1) (i := 0) C dX2_narrow_0 rfl 0 rfl rfl ?_
  refine x_iload_n (q := 2) (i := 1) C dX2_narrow_1 rfl 1 rfl rfl ?_
  refine x_virI (q := 5) C gk0.2.2.1 gk0.1 rfl ck_RX2_28 vk_X2_canNarrow (m_X2_canNarrow l hI h) ⟨⟨rfl, rfl⟩, ⟨Nat.le_of_ble_eq_true rfl, Nat.le_of_ble_eq_true rfl⟩, ⟨Nat.zero_le _, Nat.zero_le _⟩⟩ dX2_narrow_2 rfl rfl (Nat.le_of_ble_eq_true rfl) rfl (fun z1 σ1 h => ?_)
  rw [h.1]
  have h := h.2
  obtain ⟨o2, h⟩ := h
  refine x_if_ne (q := 8) (tgt := 10) C dX2_narrow_5 rfl o2 rfl (fun c3 => ?_) (fun c3 => ?_)
  · have h := h.1 c3
    refine x_aload_n (q := 11) (i := 0) C dX2_narrow_10 rfl 0 rfl rfl ?_
    refine x_getR (q := 14) (c0 := k0 + 1) C gk0.2.2.1 gk0.1 fk_RX2_9 rfl dX2_narrow_11 rfl ?_
    refine x_iload_n (q := 15) (i := 1) C dX2_narrow_14 rfl 1 rfl rfl ?_
    refine x_dup2 (q := 16) C dX2_narrow_15 rfl rfl rfl ?_
    obtain ⟨o4, h⟩ := h
    refine x_iald (q := 17) C gk0.2.2.2 gk0.2.1 dX2_narrow_16 (ix o4 rfl) (Nat.le_of_ble_eq_true rfl) rfl ?_
    refine x_iconst (q := 18) (z := 1) C dX2_narrow_17 rfl rfl ?_
    refine x_isub (q := 19) C dX2_narrow_18  rfl ?_
    refine x_iast (q := 20) C gk0.2.2.2 gk0.2.1 dX2_narrow_19 (ix o4 rfl) (Nat.le_of_ble_eq_true rfl)  rfl ?_
    refine x_iconst (q := 21) (z := 1) C dX2_narrow_20 rfl rfl ?_
    exact x_zret C dX2_narrow_21 (by decide) h
  · have h := h.2 c3
    refine x_iconst (q := 9) (z := 0) C dX2_narrow_8 rfl rfl ?_
    exact x_zret C dX2_narrow_9 (by decide) h
abbrev rm_X2_widenAll : Room := { frames := 3, cells := 0, slots := 0, locals := 63 }
def vc_X2_widenAll (σ : GS) (k0 : Nat) (Post : Int → GS → Prop) : Prop :=
  (k0 = 6 ∨ k0 = 8) ∧
  (∃ I1 : Nat → Int → Int → GS → Prop, (∃ n : Nat, I1 n 0 0 σ) ∧ ∀ (n1 : Nat) (v1_1 : Int) (v2_1 : Int) (σ1 : GS), I1 n1 v1_1 v2_1 σ1 →
  ((rg v2_1) ∧
      (((5 : Int) ≤ v2_1 →
        (Post v1_1 σ1)) ∧
      (¬ (5 : Int) ≤ v2_1 →
        (vc_X2_widen σ1 k0 v2_1 (fun (z4 : Int) (σ4 : GS) =>
          (rg z4) ∧
        ((z4 = 0 →
          (∃ n' : Nat, n' < n1 ∧ I1 n' v1_1 (v2_1 + 1) σ4)) ∧
        (¬ z4 = 0 →
          (∃ n' : Nat, n' < n1 ∧ I1 n' (v1_1 + 1) (v2_1 + 1) σ4)))))))))
set_option maxHeartbeats 4000000 in
set_option maxRecDepth 10000 in
theorem m_X2_widenAll (l : Launch) {ad : Nat → Nat} {D : va_G} {cI cZ cG : ClassId} (hI : Ij ad) {σ : GS} {k0 : Nat} {Post : Int → GS → Prop} (h : vc_X2_widenAll σ k0 Post) : Met l yX2_widenAll (wX yX2_widenAll cX2_widenAll 3 (some .int)) rm_X2_widenAll (va_Pc [.ref (ad k0)] (Wd ad D cI cZ cG σ)) (QI ad D cI cZ cG Post) 0 0 (Aw ad) := by
  refine met_V (own := RX2) hI (by decide +kernel) rfl (Nat.le_of_ble_eq_true rfl) ?_
  intro p e s m args below meth c C
  unfold vc_X2_widenAll at h
  show V p l e rm_X2_widenAll s m args below meth c ad D cI cZ cG (Aw ad) 3 0 0 (MQ below (QI ad D cI cZ cG Post) args s 0 0 (Aw ad)) σ 0 [(0, .ref (ad k0))] []
  obtain ⟨hp0, h⟩ := h
  have gk0 := gr_lay hp0
  refine x_iconst (q := 1) (z := 0) C dX2_widenAll_0 rfl rfl ?_
  refine x_istore_n (q := 2) (i := 1) (lv' := [(0, .ref (ad k0)), (1, .int (iI 0))]) C dX2_widenAll_1 rfl (Nat.le_of_ble_eq_true rfl) [1, 0] rfl rfl ?_
  refine x_iconst (q := 3) (z := 0) C dX2_widenAll_2 rfl rfl ?_
  refine x_istore_n (q := 4) (i := 2) (lv' := [(0, .ref (ad k0)), (1, .int (iI 0)), (2, .int (iI 0))]) C dX2_widenAll_3 rfl (Nat.le_of_ble_eq_true rfl) [1, 2, 0] rfl rfl ?_
  obtain ⟨I1, ⟨n01, h01⟩, hs1⟩ := h
  have L1 : ∀ (n1 : Nat) (v1_1 : Int) (v2_1 : Int) (σ1 : GS), I1 n1 v1_1 v2_1 σ1 → V p l e rm_X2_widenAll s m args below meth c ad D cI cZ cG (Aw ad) 3 0 0 (MQ below (QI ad D cI cZ cG Post) args s 0 0 (Aw ad)) σ1 4 [(0, .ref (ad k0)), (1, .int (iI v1_1)), (2, .int (iI v2_1))] [] := by
    intro n1
    induction n1 using Nat.strongRecOn with
    | ind n1 ih1 =>
      intro v1_1 v2_1 σ1 h
      have h := hs1 n1 v1_1 v2_1 σ1 h
      refine x_iload_n (q := 5) (i := 2) C dX2_widenAll_4 rfl 2 rfl rfl ?_
      refine x_iconst (q := 6) (z := 5) C dX2_widenAll_5 rfl rfl ?_
      obtain ⟨o2, h⟩ := h
      refine x_icmp_ge (q := 9) (tgt := 26) C dX2_widenAll_6 rfl ⟨o2, by decide⟩ rfl (fun c3 => ?_) (fun c3 => ?_)
      · have h := h.1 c3
        refine x_iload_n (q := 27) (i := 1) C dX2_widenAll_26 rfl 1 rfl rfl ?_
        exact x_iret C dX2_widenAll_27 h
      · have h := h.2 c3
        refine x_aload_n (q := 10) (i := 0) C dX2_widenAll_9 rfl 0 rfl rfl ?_
        refine x_iload_n (q := 11) (i := 2) C dX2_widenAll_10 rfl 2 rfl rfl ?_
        refine x_virI (q := 14) C gk0.2.2.1 gk0.1 rfl ck_RX2_31 vk_X2_widen (m_X2_widen l hI h) ⟨⟨rfl, rfl⟩, ⟨Nat.le_of_ble_eq_true rfl, Nat.le_of_ble_eq_true rfl⟩, ⟨Nat.zero_le _, Nat.zero_le _⟩⟩ dX2_widenAll_11 rfl rfl (Nat.le_of_ble_eq_true rfl) rfl (fun z4 σ4 h => ?_)
        obtain ⟨o5, h⟩ := h
        refine x_if_eq (q := 17) (tgt := 20) C dX2_widenAll_14 rfl o5 rfl (fun c6 => ?_) (fun c6 => ?_)
        · have h := h.1 c6
          refine x_iinc (q := 23) (z' := v2_1 + 1) (lv' := [(0, .ref (ad k0)), (1, .int (iI v1_1)), (2, .int (iI (v2_1 + 1)))]) C dX2_widenAll_20 2 rfl rfl (Nat.le_of_ble_eq_true rfl) [1, 2, 0] rfl rfl ?_
          refine x_goto (tgt := 4) C dX2_widenAll_23 rfl ?_
          obtain ⟨n7, hl8, h⟩ := h
          refine x_sub [0, 1, 2] rfl ?_
          exact ih1 n7 hl8 _ _ _ h
        · have h := h.2 c6
          refine x_iinc (q := 20) (z' := v1_1 + 1) (lv' := [(0, .ref (ad k0)), (1, .int (iI (v1_1 + 1))), (2, .int (iI v2_1))]) C dX2_widenAll_17 1 rfl rfl (Nat.le_of_ble_eq_true rfl) [1, 0, 2] rfl rfl ?_
          refine x_iinc (q := 23) (z' := v2_1 + 1) (lv' := [(0, .ref (ad k0)), (1, .int (iI (v1_1 + 1))), (2, .int (iI (v2_1 + 1)))]) C dX2_widenAll_20 2 rfl rfl (Nat.le_of_ble_eq_true rfl) [1, 2, 0] rfl rfl ?_
          refine x_goto (tgt := 4) C dX2_widenAll_23 rfl ?_
          obtain ⟨n9, hl10, h⟩ := h
          refine x_sub [0, 1, 2] rfl ?_
          exact ih1 n9 hl10 _ _ _ h
  exact L1 n01 0 0 σ h01
abbrev rm_X2_close : Room := { frames := 0, cells := 0, slots := 0, locals := 0 }
def vc_X2_close (σ : GS) (k0 : Nat) (a0 : Int) (Post : GS → Prop) : Prop :=
  (k0 = 6 ∨ k0 = 8) ∧
  ((rg a0) ∧
  ((a0 < 0 →
    (Post σ)) ∧
  (¬ a0 < 0 →
    (((5 : Int) ≤ a0 →
      (Post σ)) ∧
    (¬ (5 : Int) ≤ a0 →
      ((0 ≤ a0 ∧ a0 < 5) ∧
      (Post (up2 σ (k0 + 1) a0.toNat 0))))))))
set_option maxHeartbeats 4000000 in
set_option maxRecDepth 10000 in
theorem m_X2_close (l : Launch) {ad : Nat → Nat} {D : va_G} {cI cZ cG : ClassId} (hI : Ij ad) {σ : GS} {k0 : Nat} {a0 : Int} {Post : GS → Prop} (h : vc_X2_close σ k0 a0 Post) : Met l yX2_close (wX yX2_close cX2_close 2 none) rm_X2_close (va_Pc [.ref (ad k0), .int (iI a0)] (Wd ad D cI cZ cG σ)) (QV ad D cI cZ cG Post) 0 0 (Aw ad) := by
  refine met_V (own := RX2) hI (by decide +kernel) rfl (Nat.le_of_ble_eq_true rfl) ?_
  intro p e s m args below meth c C
  unfold vc_X2_close at h
  show V p l e rm_X2_close s m args below meth c ad D cI cZ cG (Aw ad) 2 0 0 (MQ below (QV ad D cI cZ cG Post) args s 0 0 (Aw ad)) σ 0 [(0, .ref (ad k0)), (1, .int (iI a0))] []
  obtain ⟨hp0, h⟩ := h
  have gk0 := gr_lay hp0
  refine x_iload_n (q := 1) (i := 1) C dX2_close_0 rfl 1 rfl rfl ?_
  obtain ⟨o1, h⟩ := h
  refine x_if_lt (q := 4) (tgt := 16) C dX2_close_1 rfl o1 rfl (fun c2 => ?_) (fun c2 => ?_)
  · have h := h.1 c2
    exact x_vret C dX2_close_16 h
  · have h := h.2 c2
    refine x_iload_n (q := 5) (i := 1) C dX2_close_4 rfl 1 rfl rfl ?_
    refine x_iconst (q := 6) (z := 5) C dX2_close_5 rfl rfl ?_
    refine x_icmp_ge (q := 9) (tgt := 16) C dX2_close_6 rfl ⟨o1, by decide⟩ rfl (fun c3 => ?_) (fun c3 => ?_)
    · have h := h.1 c3
      exact x_vret C dX2_close_16 h
    · have h := h.2 c3
      refine x_aload_n (q := 10) (i := 0) C dX2_close_9 rfl 0 rfl rfl ?_
      refine x_getR (q := 13) (c0 := k0 + 1) C gk0.2.2.1 gk0.1 fk_RX2_9 rfl dX2_close_10 rfl ?_
      refine x_iload_n (q := 14) (i := 1) C dX2_close_13 rfl 1 rfl rfl ?_
      refine x_iconst (q := 15) (z := 0) C dX2_close_14 rfl rfl ?_
      obtain ⟨o4, h⟩ := h
      refine x_iast (q := 16) C gk0.2.2.2 gk0.2.1 dX2_close_15 (ix o4 rfl) (Nat.le_of_ble_eq_true rfl)  rfl ?_
      exact x_vret C dX2_close_16 h
abbrev rm_J7_fill_53178 : Room := { frames := 0, cells := 0, slots := 0, locals := 0 }
def vc_J7_fill_53178 (σ : GS) (r1 ln : Nat) (a1 : Int) (Post : GS → Prop) : Prop :=
  (lay r1 = cA ln ∧ r1 < 65 ∧ ln < 2147483648) ∧
  (∃ I1 : Nat → Int → GS → Prop, (∃ n : Nat, I1 n 0 σ) ∧ ∀ (n1 : Nat) (v2_1 : Int) (σ1 : GS), I1 n1 v2_1 σ1 →
  ((rg v2_1) ∧
      ((rg (ln : Int)) ∧
      (((ln : Int) ≤ v2_1 →
        (Post σ1)) ∧
      (¬ (ln : Int) ≤ v2_1 →
        ((0 ≤ v2_1 ∧ v2_1 < (ln : Int)) ∧
        (∃ n' : Nat, n' < n1 ∧ I1 n' (v2_1 + 1) (up2 σ1 r1 v2_1.toNat a1))))))))
set_option maxHeartbeats 4000000 in
set_option maxRecDepth 10000 in
theorem m_J7_fill_53178 (l : Launch) {ad : Nat → Nat} {D : va_G} {cI cZ cG : ClassId} (hI : Ij ad) {σ : GS} {r1 ln : Nat} {a1 : Int} {Post : GS → Prop} (h : vc_J7_fill_53178 σ r1 ln a1 Post) : Met l yJ7_fill_53178 (wX yJ7_fill_53178 cJ7_fill_53178 4 none) rm_J7_fill_53178 (va_Pc [.ref (ad r1), .int (iI a1)] (Wd ad D cI cZ cG σ)) (QV ad D cI cZ cG Post) 0 0 (Aw ad) := by
  refine met_V (own := RJ7) hI (by decide +kernel) rfl (Nat.le_of_ble_eq_true rfl) ?_
  intro p e s m args below meth c C
  unfold vc_J7_fill_53178 at h
  show V p l e rm_J7_fill_53178 s m args below meth c ad D cI cZ cG (Aw ad) 4 0 0 (MQ below (QV ad D cI cZ cG Post) args s 0 0 (Aw ad)) σ 0 [(0, .ref (ad r1)), (1, .int (iI a1))] []
  obtain ⟨hp0, h⟩ := h
  have hn_ := hp0.2.2
  refine x_iconst (q := 1) (z := 0) C dJ7_fill_53178_0 rfl rfl ?_
  refine x_istore_n (q := 2) (i := 2) (lv' := [(0, .ref (ad r1)), (1, .int (iI a1)), (2, .int (iI 0))]) C dJ7_fill_53178_1 rfl (Nat.le_of_ble_eq_true rfl) [1, 2, 0] rfl rfl ?_
  refine x_aload_n (q := 3) (i := 0) C dJ7_fill_53178_2 rfl 0 rfl rfl ?_
  refine x_alen (q := 4) C hp0.2.1 hp0.1 dJ7_fill_53178_3 rfl ?_
  refine x_istore_n (q := 5) (i := 3) (lv' := [(0, .ref (ad r1)), (1, .int (iI a1)), (2, .int (iI 0)), (3, .int (iI (ln : Int)))]) C dJ7_fill_53178_4 rfl (Nat.le_of_ble_eq_true rfl) [1, 2, 3, 0] rfl rfl ?_
  obtain ⟨I1, ⟨n01, h01⟩, hs1⟩ := h
  have L1 : ∀ (n1 : Nat) (v2_1 : Int) (σ1 : GS), I1 n1 v2_1 σ1 → V p l e rm_J7_fill_53178 s m args below meth c ad D cI cZ cG (Aw ad) 4 0 0 (MQ below (QV ad D cI cZ cG Post) args s 0 0 (Aw ad)) σ1 5 [(0, .ref (ad r1)), (1, .int (iI a1)), (2, .int (iI v2_1)), (3, .int (iI (ln : Int)))] [] := by
    intro n1
    induction n1 using Nat.strongRecOn with
    | ind n1 ih1 =>
      intro v2_1 σ1 h
      have h := hs1 n1 v2_1 σ1 h
      refine x_iload_n (q := 6) (i := 2) C dJ7_fill_53178_5 rfl 2 rfl rfl ?_
      refine x_iload_n (q := 7) (i := 3) C dJ7_fill_53178_6 rfl 3 rfl rfl ?_
      obtain ⟨o2, h⟩ := h
      obtain ⟨o3, h⟩ := h
      refine x_icmp_ge (q := 10) (tgt := 20) C dJ7_fill_53178_7 rfl ⟨o2, o3⟩ rfl (fun c4 => ?_) (fun c4 => ?_)
      · have h := h.1 c4
        exact x_vret C dJ7_fill_53178_20 h
      · have h := h.2 c4
        refine x_aload_n (q := 11) (i := 0) C dJ7_fill_53178_10 rfl 0 rfl rfl ?_
        refine x_iload_n (q := 12) (i := 2) C dJ7_fill_53178_11 rfl 2 rfl rfl ?_
        refine x_iload_n (q := 13) (i := 1) C dJ7_fill_53178_12 rfl 1 rfl rfl ?_
        obtain ⟨o5, h⟩ := h
        refine x_iast (q := 14) C hp0.2.1 hp0.1 dJ7_fill_53178_13 o5 (hn_)  rfl ?_
        refine x_iinc (q := 17) (z' := v2_1 + 1) (lv' := [(0, .ref (ad r1)), (1, .int (iI a1)), (2, .int (iI (v2_1 + 1))), (3, .int (iI (ln : Int)))]) C dJ7_fill_53178_14 2 rfl rfl (Nat.le_of_ble_eq_true rfl) [1, 2, 0, 3] rfl rfl ?_
        refine x_goto (tgt := 5) C dJ7_fill_53178_17 rfl ?_
        obtain ⟨n6, hl7, h⟩ := h
        refine x_sub [0, 1, 2, 3] rfl ?_
        exact ih1 n6 hl7 _ _ h
  exact L1 n01 0 σ h01
abbrev rm_X2_clear : Room := { frames := 1, cells := 0, slots := 0, locals := 23 }
def vc_X2_clear (σ : GS) (k0 : Nat) (Post : GS → Prop) : Prop :=
  (k0 = 6 ∨ k0 = 8) ∧
  (vc_J7_fill_53178 σ (k0 + 1) 5 0 (fun (σ1 : GS) =>
    Post σ1))
set_option maxHeartbeats 4000000 in
set_option maxRecDepth 10000 in
theorem m_X2_clear (l : Launch) {ad : Nat → Nat} {D : va_G} {cI cZ cG : ClassId} (hI : Ij ad) {σ : GS} {k0 : Nat} {Post : GS → Prop} (h : vc_X2_clear σ k0 Post) : Met l yX2_clear (wX yX2_clear cX2_clear 1 none) rm_X2_clear (va_Pc [.ref (ad k0)] (Wd ad D cI cZ cG σ)) (QV ad D cI cZ cG Post) 0 0 (Aw ad) := by
  refine met_V (own := RX2) hI (by decide +kernel) rfl (Nat.le_of_ble_eq_true rfl) ?_
  intro p e s m args below meth c C
  unfold vc_X2_clear at h
  show V p l e rm_X2_clear s m args below meth c ad D cI cZ cG (Aw ad) 1 0 0 (MQ below (QV ad D cI cZ cG Post) args s 0 0 (Aw ad)) σ 0 [(0, .ref (ad k0))] []
  obtain ⟨hp0, h⟩ := h
  have gk0 := gr_lay hp0
  refine x_aload_n (q := 1) (i := 0) C dX2_clear_0 rfl 0 rfl rfl ?_
  refine x_getR (q := 4) (c0 := k0 + 1) C gk0.2.2.1 gk0.1 fk_RX2_9 rfl dX2_clear_1 rfl ?_
  refine x_iconst (q := 5) (z := 0) C dX2_clear_4 rfl rfl ?_
  refine x_staV (q := 8) C ck_RX2_34 t1_75 (m_J7_fill_53178 l hI h) ⟨⟨rfl, rfl⟩, ⟨Nat.le_of_ble_eq_true rfl, Nat.le_of_ble_eq_true rfl⟩, ⟨Nat.zero_le _, Nat.zero_le _⟩⟩ dX2_clear_5 rfl rfl (Nat.le_of_ble_eq_true rfl) rfl (fun σ1 h => ?_)
  exact x_vret C dX2_clear_8 h
abbrev rm_X2_sumAhead : Room := { frames := 0, cells := 0, slots := 0, locals := 0 }
def vc_X2_sumAhead (σ : GS) (k0 : Nat) (a0 : Int) (Post : Int → Prop) : Prop :=
  (k0 = 6 ∨ k0 = 8) ∧
  (∃ I1 : Nat → Int → Int → Prop, (∃ n : Nat, I1 n 0 0) ∧ ∀ (n1 : Nat) (v2_1 : Int) (v3_1 : Int), I1 n1 v2_1 v3_1 →
  ((rg v3_1) ∧
      ((rg a0) ∧
      ((a0 ≤ v3_1 →
        (Post v2_1)) ∧
      (¬ a0 ≤ v3_1 →
        (((5 : Int) ≤ v3_1 →
          (Post v2_1)) ∧
        (¬ (5 : Int) ≤ v3_1 →
          ((0 ≤ v3_1 ∧ v3_1 < 5) ∧
          (∃ n' : Nat, n' < n1 ∧ I1 n' (v2_1 + (σ (k0 + 1) v3_1.toNat)) (v3_1 + 1))))))))))
set_option maxHeartbeats 4000000 in
set_option maxRecDepth 10000 in
theorem m_X2_sumAhead (l : Launch) {ad : Nat → Nat} {D : va_G} {cI cZ cG : ClassId} (hI : Ij ad) {σ : GS} {k0 : Nat} {a0 : Int} {Post : Int → Prop} (h : vc_X2_sumAhead σ k0 a0 Post) : Met l yX2_sumAhead (wX yX2_sumAhead cX2_sumAhead 4 (some .int)) rm_X2_sumAhead (va_Pc [.ref (ad k0), .int (iI a0)] (Wd ad D cI cZ cG σ)) (QI ad D cI cZ cG (fun z u => u = σ ∧ Post z)) 0 0 (Aw ad) := by
  refine met_V (own := RX2) hI (by decide +kernel) rfl (Nat.le_of_ble_eq_true rfl) ?_
  intro p e s m args below meth c C
  unfold vc_X2_sumAhead at h
  show V p l e rm_X2_sumAhead s m args below meth c ad D cI cZ cG (Aw ad) 4 0 0 (MQ below (QI ad D cI cZ cG (fun z u => u = σ ∧ Post z)) args s 0 0 (Aw ad)) σ 0 [(0, .ref (ad k0)), (1, .int (iI a0))] []
  obtain ⟨hp0, h⟩ := h
  have gk0 := gr_lay hp0
  refine x_iconst (q := 1) (z := 0) C dX2_sumAhead_0 rfl rfl ?_
  refine x_istore_n (q := 2) (i := 2) (lv' := [(0, .ref (ad k0)), (1, .int (iI a0)), (2, .int (iI 0))]) C dX2_sumAhead_1 rfl (Nat.le_of_ble_eq_true rfl) [1, 2, 0] rfl rfl ?_
  refine x_iconst (q := 3) (z := 0) C dX2_sumAhead_2 rfl rfl ?_
  refine x_istore_n (q := 4) (i := 3) (lv' := [(0, .ref (ad k0)), (1, .int (iI a0)), (2, .int (iI 0)), (3, .int (iI 0))]) C dX2_sumAhead_3 rfl (Nat.le_of_ble_eq_true rfl) [1, 2, 3, 0] rfl rfl ?_
  obtain ⟨I1, ⟨n01, h01⟩, hs1⟩ := h
  have L1 : ∀ (n1 : Nat) (v2_1 : Int) (v3_1 : Int), I1 n1 v2_1 v3_1 → V p l e rm_X2_sumAhead s m args below meth c ad D cI cZ cG (Aw ad) 4 0 0 (MQ below (QI ad D cI cZ cG (fun z u => u = σ ∧ Post z)) args s 0 0 (Aw ad)) σ 4 [(0, .ref (ad k0)), (1, .int (iI a0)), (2, .int (iI v2_1)), (3, .int (iI v3_1))] [] := by
    intro n1
    induction n1 using Nat.strongRecOn with
    | ind n1 ih1 =>
      intro v2_1 v3_1 h
      have h := hs1 n1 v2_1 v3_1 h
      refine x_iload_n (q := 5) (i := 3) C dX2_sumAhead_4 rfl 3 rfl rfl ?_
      refine x_iload_n (q := 6) (i := 1) C dX2_sumAhead_5 rfl 1 rfl rfl ?_
      obtain ⟨o2, h⟩ := h
      obtain ⟨o3, h⟩ := h
      refine x_icmp_ge (q := 9) (tgt := 29) C dX2_sumAhead_6 rfl ⟨o2, o3⟩ rfl (fun c4 => ?_) (fun c4 => ?_)
      · have h := h.1 c4
        refine x_iload_n (q := 30) (i := 2) C dX2_sumAhead_29 rfl 2 rfl rfl ?_
        exact x_iret C dX2_sumAhead_30 ⟨rfl, h⟩
      · have h := h.2 c4
        refine x_iload_n (q := 10) (i := 3) C dX2_sumAhead_9 rfl 3 rfl rfl ?_
        refine x_iconst (q := 11) (z := 5) C dX2_sumAhead_10 rfl rfl ?_
        refine x_icmp_ge (q := 14) (tgt := 29) C dX2_sumAhead_11 rfl ⟨o2, by decide⟩ rfl (fun c5 => ?_) (fun c5 => ?_)
        · have h := h.1 c5
          refine x_iload_n (q := 30) (i := 2) C dX2_sumAhead_29 rfl 2 rfl rfl ?_
          exact x_iret C dX2_sumAhead_30 ⟨rfl, h⟩
        · have h := h.2 c5
          refine x_iload_n (q := 15) (i := 2) C dX2_sumAhead_14 rfl 2 rfl rfl ?_
          refine x_aload_n (q := 16) (i := 0) C dX2_sumAhead_15 rfl 0 rfl rfl ?_
          refine x_getR (q := 19) (c0 := k0 + 1) C gk0.2.2.1 gk0.1 fk_RX2_9 rfl dX2_sumAhead_16 rfl ?_
          refine x_iload_n (q := 20) (i := 3) C dX2_sumAhead_19 rfl 3 rfl rfl ?_
          obtain ⟨o6, h⟩ := h
          refine x_iald (q := 21) C gk0.2.2.2 gk0.2.1 dX2_sumAhead_20 (ix o6 rfl) (Nat.le_of_ble_eq_true rfl) rfl ?_
          refine x_iadd (q := 22) C dX2_sumAhead_21  rfl ?_
          refine x_istore_n (q := 23) (i := 2) (lv' := [(0, .ref (ad k0)), (1, .int (iI a0)), (2, .int (iI (v2_1 + (σ (k0 + 1) v3_1.toNat)))), (3, .int (iI v3_1))]) C dX2_sumAhead_22 rfl (Nat.le_of_ble_eq_true rfl) [1, 2, 0, 3] rfl rfl ?_
          refine x_iinc (q := 26) (z' := v3_1 + 1) (lv' := [(0, .ref (ad k0)), (1, .int (iI a0)), (2, .int (iI (v2_1 + (σ (k0 + 1) v3_1.toNat)))), (3, .int (iI (v3_1 + 1)))]) C dX2_sumAhead_23 3 rfl rfl (Nat.le_of_ble_eq_true rfl) [1, 2, 3, 0] rfl rfl ?_
          refine x_goto (tgt := 4) C dX2_sumAhead_26 rfl ?_
          obtain ⟨n7, hl8, h⟩ := h
          refine x_sub [0, 1, 2, 3] rfl ?_
          exact ih1 n7 hl8 _ _ h
  exact L1 n01 0 0 h01
abbrev rm_X2_sum : Room := { frames := 1, cells := 0, slots := 0, locals := 23 }
def vc_X2_sum (σ : GS) (k0 : Nat) (Post : Int → Prop) : Prop :=
  (k0 = 6 ∨ k0 = 8) ∧
  (vc_X2_sumAhead σ k0 5 (fun (z1 : Int) =>
    Post z1))
set_option maxHeartbeats 4000000 in
set_option maxRecDepth 10000 in
theorem m_X2_sum (l : Launch) {ad : Nat → Nat} {D : va_G} {cI cZ cG : ClassId} (hI : Ij ad) {σ : GS} {k0 : Nat} {Post : Int → Prop} (h : vc_X2_sum σ k0 Post) : Met l yX2_sum (wX yX2_sum cX2_sum 1 (some .int)) rm_X2_sum (va_Pc [.ref (ad k0)] (Wd ad D cI cZ cG σ)) (QI ad D cI cZ cG (fun z u => u = σ ∧ Post z)) 0 0 (Aw ad) := by
  refine met_V (own := RX2) hI (by decide +kernel) rfl (Nat.le_of_ble_eq_true rfl) ?_
  intro p e s m args below meth c C
  unfold vc_X2_sum at h
  show V p l e rm_X2_sum s m args below meth c ad D cI cZ cG (Aw ad) 1 0 0 (MQ below (QI ad D cI cZ cG (fun z u => u = σ ∧ Post z)) args s 0 0 (Aw ad)) σ 0 [(0, .ref (ad k0))] []
  obtain ⟨hp0, h⟩ := h
  have gk0 := gr_lay hp0
  refine x_aload_n (q := 1) (i := 0) C dX2_sum_0 rfl 0 rfl rfl ?_
  refine x_iconst (q := 2) (z := 5) C dX2_sum_1 rfl rfl ?_
  refine x_virI (q := 5) C gk0.2.2.1 gk0.1 rfl ck_RX2_40 vk_X2_sumAhead (m_X2_sumAhead l hI h) ⟨⟨rfl, rfl⟩, ⟨Nat.le_of_ble_eq_true rfl, Nat.le_of_ble_eq_true rfl⟩, ⟨Nat.zero_le _, Nat.zero_le _⟩⟩ dX2_sum_2 rfl rfl (Nat.le_of_ble_eq_true rfl) rfl (fun z1 σ1 h => ?_)
  rw [h.1]
  have h := h.2
  exact x_iret C dX2_sum_5 ⟨rfl, h⟩
abbrev rm_X2_figures : Room := { frames := 1, cells := 0, slots := 0, locals := 21 }
def vc_X2_figures (σ : GS) (k0 : Nat) (Post : Int → Prop) : Prop :=
  (k0 = 6 ∨ k0 = 8) ∧
  (∃ I1 : Nat → Int → Int → Prop, (∃ n : Nat, I1 n 0 0) ∧ ∀ (n1 : Nat) (v1_1 : Int) (v2_1 : Int), I1 n1 v1_1 v2_1 →
  ((rg v2_1) ∧
      (((5 : Int) ≤ v2_1 →
        (Post v1_1)) ∧
      (¬ (5 : Int) ≤ v2_1 →
        (vc_X1_hasGap σ v2_1 (fun (z4 : Int) =>
          (rg z4) ∧
        ((z4 = 0 →
          (Post v1_1)) ∧
        (¬ z4 = 0 →
          ((0 ≤ v2_1 ∧ v2_1 < 5) ∧
          (∃ n' : Nat, n' < n1 ∧ I1 n' ((10 * v1_1) + (σ (k0 + 1) v2_1.toNat)) (v2_1 + 1)))))))))))
set_option maxHeartbeats 4000000 in
set_option maxRecDepth 10000 in
theorem m_X2_figures (l : Launch) {ad : Nat → Nat} {D : va_G} {cI cZ cG : ClassId} (hI : Ij ad) {σ : GS} {k0 : Nat} {Post : Int → Prop} (h : vc_X2_figures σ k0 Post) : Met l yX2_figures (wX yX2_figures cX2_figures 3 (some .int)) rm_X2_figures (va_Pc [.ref (ad k0)] (Wd ad D cI cZ cG σ)) (QI ad D cI cZ cG (fun z u => u = σ ∧ Post z)) 0 0 (Aw ad) := by
  refine met_V (own := RX2) hI (by decide +kernel) rfl (Nat.le_of_ble_eq_true rfl) ?_
  intro p e s m args below meth c C
  unfold vc_X2_figures at h
  show V p l e rm_X2_figures s m args below meth c ad D cI cZ cG (Aw ad) 3 0 0 (MQ below (QI ad D cI cZ cG (fun z u => u = σ ∧ Post z)) args s 0 0 (Aw ad)) σ 0 [(0, .ref (ad k0))] []
  obtain ⟨hp0, h⟩ := h
  have gk0 := gr_lay hp0
  refine x_iconst (q := 1) (z := 0) C dX2_figures_0 rfl rfl ?_
  refine x_istore_n (q := 2) (i := 1) (lv' := [(0, .ref (ad k0)), (1, .int (iI 0))]) C dX2_figures_1 rfl (Nat.le_of_ble_eq_true rfl) [1, 0] rfl rfl ?_
  refine x_iconst (q := 3) (z := 0) C dX2_figures_2 rfl rfl ?_
  refine x_istore_n (q := 4) (i := 2) (lv' := [(0, .ref (ad k0)), (1, .int (iI 0)), (2, .int (iI 0))]) C dX2_figures_3 rfl (Nat.le_of_ble_eq_true rfl) [1, 2, 0] rfl rfl ?_
  obtain ⟨I1, ⟨n01, h01⟩, hs1⟩ := h
  have L1 : ∀ (n1 : Nat) (v1_1 : Int) (v2_1 : Int), I1 n1 v1_1 v2_1 → V p l e rm_X2_figures s m args below meth c ad D cI cZ cG (Aw ad) 3 0 0 (MQ below (QI ad D cI cZ cG (fun z u => u = σ ∧ Post z)) args s 0 0 (Aw ad)) σ 4 [(0, .ref (ad k0)), (1, .int (iI v1_1)), (2, .int (iI v2_1))] [] := by
    intro n1
    induction n1 using Nat.strongRecOn with
    | ind n1 ih1 =>
      intro v1_1 v2_1 h
      have h := hs1 n1 v1_1 v2_1 h
      refine x_iload_n (q := 5) (i := 2) C dX2_figures_4 rfl 2 rfl rfl ?_
      refine x_iconst (q := 6) (z := 5) C dX2_figures_5 rfl rfl ?_
      obtain ⟨o2, h⟩ := h
      refine x_icmp_ge (q := 9) (tgt := 38) C dX2_figures_6 rfl ⟨o2, by decide⟩ rfl (fun c3 => ?_) (fun c3 => ?_)
      · have h := h.1 c3
        refine x_iload_n (q := 39) (i := 1) C dX2_figures_38 rfl 1 rfl rfl ?_
        exact x_iret C dX2_figures_39 ⟨rfl, h⟩
      · have h := h.2 c3
        refine x_aload_n (q := 10) (i := 0) C dX2_figures_9 rfl 0 rfl rfl ?_
        refine x_getR (q := 13) (c0 := 3) C gk0.2.2.1 gk0.1 fk_RX2_15 rfl dX2_figures_10 rfl ?_
        refine x_iload_n (q := 14) (i := 2) C dX2_figures_13 rfl 2 rfl rfl ?_
        refine x_virI (q := 17) C (Nat.le_of_ble_eq_true rfl) ly_3 rfl ck_RX2_44 vk_X1_hasGap (m_X1_hasGap l hI h) ⟨⟨rfl, rfl⟩, ⟨Nat.le_of_ble_eq_true rfl, Nat.le_of_ble_eq_true rfl⟩, ⟨Nat.zero_le _, Nat.zero_le _⟩⟩ dX2_figures_14 rfl rfl (Nat.le_of_ble_eq_true rfl) rfl (fun z4 σ4 h => ?_)
        rw [h.1]
        have h := h.2
        obtain ⟨o5, h⟩ := h
        refine x_if_eq (q := 20) (tgt := 38) C dX2_figures_17 rfl o5 rfl (fun c6 => ?_) (fun c6 => ?_)
        · have h := h.1 c6
          refine x_iload_n (q := 39) (i := 1) C dX2_figures_38 rfl 1 rfl rfl ?_
          exact x_iret C dX2_figures_39 ⟨rfl, h⟩
        · have h := h.2 c6
          refine x_bipush (q := 22) (z := 10) C dX2_figures_20 rfl rfl ?_
          refine x_iload_n (q := 23) (i := 1) C dX2_figures_22 rfl 1 rfl rfl ?_
          refine x_imul (q := 24) C dX2_figures_23  rfl ?_
          refine x_aload_n (q := 25) (i := 0) C dX2_figures_24 rfl 0 rfl rfl ?_
          refine x_getR (q := 28) (c0 := k0 + 1) C gk0.2.2.1 gk0.1 fk_RX2_9 rfl dX2_figures_25 rfl ?_
          refine x_iload_n (q := 29) (i := 2) C dX2_figures_28 rfl 2 rfl rfl ?_
          obtain ⟨o7, h⟩ := h
          refine x_iald (q := 30) C gk0.2.2.2 gk0.2.1 dX2_figures_29 (ix o7 rfl) (Nat.le_of_ble_eq_true rfl) rfl ?_
          refine x_iadd (q := 31) C dX2_figures_30  rfl ?_
          refine x_istore_n (q := 32) (i := 1) (lv' := [(0, .ref (ad k0)), (1, .int (iI ((10 * v1_1) + (σ (k0 + 1) v2_1.toNat)))), (2, .int (iI v2_1))]) C dX2_figures_31 rfl (Nat.le_of_ble_eq_true rfl) [1, 0, 2] rfl rfl ?_
          refine x_iinc (q := 35) (z' := v2_1 + 1) (lv' := [(0, .ref (ad k0)), (1, .int (iI ((10 * v1_1) + (σ (k0 + 1) v2_1.toNat)))), (2, .int (iI (v2_1 + 1)))]) C dX2_figures_32 2 rfl rfl (Nat.le_of_ble_eq_true rfl) [1, 2, 0] rfl rfl ?_
          refine x_goto (tgt := 4) C dX2_figures_35 rfl ?_
          obtain ⟨n8, hl9, h⟩ := h
          refine x_sub [0, 1, 2] rfl ?_
          exact ih1 n8 hl9 _ _ h
  exact L1 n01 0 0 h01
abbrev rm_X2_stepsFrom : Room := { frames := 1, cells := 0, slots := 0, locals := 26 }
def vc_X2_stepsFrom (σ : GS) (k0 : Nat) (k1 : Nat) (Post : Int → Prop) : Prop :=
  (k0 = 6 ∨ k0 = 8) ∧
  ((k1 = 6 ∨ k1 = 8) ∧
  (∃ I1 : Nat → Int → Int → Prop, (∃ n : Nat, I1 n 0 0) ∧ ∀ (n1 : Nat) (v2_1 : Int) (v3_1 : Int), I1 n1 v2_1 v3_1 →
  ((rg v3_1) ∧
      (((5 : Int) ≤ v3_1 →
        (Post v2_1)) ∧
      (¬ (5 : Int) ≤ v3_1 →
        ((0 ≤ v3_1 ∧ v3_1 < 5) ∧
        ((rg ((σ (k0 + 1) v3_1.toNat) - (σ (k1 + 1) v3_1.toNat))) ∧
        (∃ n' : Nat, n' < n1 ∧ I1 n' (v2_1 + (if 0 ≤ ((σ (k0 + 1) v3_1.toNat) - (σ (k1 + 1) v3_1.toNat)) then ((σ (k0 + 1) v3_1.toNat) - (σ (k1 + 1) v3_1.toNat)) else 0 - ((σ (k0 + 1) v3_1.toNat) - (σ (k1 + 1) v3_1.toNat)))) (v3_1 + 1)))))))))
set_option maxHeartbeats 4000000 in
set_option maxRecDepth 10000 in
theorem m_X2_stepsFrom (l : Launch) {ad : Nat → Nat} {D : va_G} {cI cZ cG : ClassId} (hI : Ij ad) {σ : GS} {k0 : Nat} {k1 : Nat} {Post : Int → Prop} (h : vc_X2_stepsFrom σ k0 k1 Post) : Met l yX2_stepsFrom (wX yX2_stepsFrom cX2_stepsFrom 4 (some .int)) rm_X2_stepsFrom (va_Pc [.ref (ad k0), .ref (ad k1)] (Wd ad D cI cZ cG σ)) (QI ad D cI cZ cG (fun z u => u = σ ∧ Post z)) 0 0 (Aw ad) := by
  refine met_V (own := RX2) hI (by decide +kernel) rfl (Nat.le_of_ble_eq_true rfl) ?_
  intro p e s m args below meth c C
  unfold vc_X2_stepsFrom at h
  show V p l e rm_X2_stepsFrom s m args below meth c ad D cI cZ cG (Aw ad) 4 0 0 (MQ below (QI ad D cI cZ cG (fun z u => u = σ ∧ Post z)) args s 0 0 (Aw ad)) σ 0 [(0, .ref (ad k0)), (1, .ref (ad k1))] []
  obtain ⟨hp0, h⟩ := h
  have gk0 := gr_lay hp0
  obtain ⟨hp1, h⟩ := h
  have gk1 := gr_lay hp1
  refine x_iconst (q := 1) (z := 0) C dX2_stepsFrom_0 rfl rfl ?_
  refine x_istore_n (q := 2) (i := 2) (lv' := [(0, .ref (ad k0)), (1, .ref (ad k1)), (2, .int (iI 0))]) C dX2_stepsFrom_1 rfl (Nat.le_of_ble_eq_true rfl) [1, 2, 0] rfl rfl ?_
  refine x_iconst (q := 3) (z := 0) C dX2_stepsFrom_2 rfl rfl ?_
  refine x_istore_n (q := 4) (i := 3) (lv' := [(0, .ref (ad k0)), (1, .ref (ad k1)), (2, .int (iI 0)), (3, .int (iI 0))]) C dX2_stepsFrom_3 rfl (Nat.le_of_ble_eq_true rfl) [1, 2, 3, 0] rfl rfl ?_
  obtain ⟨I1, ⟨n01, h01⟩, hs1⟩ := h
  have L1 : ∀ (n1 : Nat) (v2_1 : Int) (v3_1 : Int), I1 n1 v2_1 v3_1 → V p l e rm_X2_stepsFrom s m args below meth c ad D cI cZ cG (Aw ad) 4 0 0 (MQ below (QI ad D cI cZ cG (fun z u => u = σ ∧ Post z)) args s 0 0 (Aw ad)) σ 4 [(0, .ref (ad k0)), (1, .ref (ad k1)), (2, .int (iI v2_1)), (3, .int (iI v3_1))] [] := by
    intro n1
    induction n1 using Nat.strongRecOn with
    | ind n1 ih1 =>
      intro v2_1 v3_1 h
      have h := hs1 n1 v2_1 v3_1 h
      refine x_iload_n (q := 5) (i := 3) C dX2_stepsFrom_4 rfl 3 rfl rfl ?_
      refine x_iconst (q := 6) (z := 5) C dX2_stepsFrom_5 rfl rfl ?_
      obtain ⟨o2, h⟩ := h
      refine x_icmp_ge (q := 9) (tgt := 34) C dX2_stepsFrom_6 rfl ⟨o2, by decide⟩ rfl (fun c3 => ?_) (fun c3 => ?_)
      · have h := h.1 c3
        refine x_iload_n (q := 35) (i := 2) C dX2_stepsFrom_34 rfl 2 rfl rfl ?_
        exact x_iret C dX2_stepsFrom_35 ⟨rfl, h⟩
      · have h := h.2 c3
        refine x_iload_n (q := 10) (i := 2) C dX2_stepsFrom_9 rfl 2 rfl rfl ?_
        refine x_aload_n (q := 11) (i := 0) C dX2_stepsFrom_10 rfl 0 rfl rfl ?_
        refine x_getR (q := 14) (c0 := k0 + 1) C gk0.2.2.1 gk0.1 fk_RX2_9 rfl dX2_stepsFrom_11 rfl ?_
        refine x_iload_n (q := 15) (i := 3) C dX2_stepsFrom_14 rfl 3 rfl rfl ?_
        obtain ⟨o4, h⟩ := h
        refine x_iald (q := 16) C gk0.2.2.2 gk0.2.1 dX2_stepsFrom_15 (ix o4 rfl) (Nat.le_of_ble_eq_true rfl) rfl ?_
        refine x_aload_n (q := 17) (i := 1) C dX2_stepsFrom_16 rfl 1 rfl rfl ?_
        refine x_getR (q := 20) (c0 := k1 + 1) C gk1.2.2.1 gk1.1 fk_RX2_9 rfl dX2_stepsFrom_17 rfl ?_
        refine x_iload_n (q := 21) (i := 3) C dX2_stepsFrom_20 rfl 3 rfl rfl ?_
        refine x_iald (q := 22) C gk1.2.2.2 gk1.2.1 dX2_stepsFrom_21 (ix o4 rfl) (Nat.le_of_ble_eq_true rfl) rfl ?_
        refine x_isub (q := 23) C dX2_stepsFrom_22  rfl ?_
        obtain ⟨o5, h⟩ := h
        refine x_abs (q := 26) C t3_36 ⟨t3_37, t1_13, t3_38⟩ ⟨⟨Nat.le_of_ble_eq_true rfl, Nat.le_of_ble_eq_true rfl⟩, ⟨Nat.zero_le _, Nat.zero_le _⟩⟩ dX2_stepsFrom_23 o5 rfl ?_
        refine x_iadd (q := 27) C dX2_stepsFrom_26  rfl ?_
        refine x_istore_n (q := 28) (i := 2) (lv' := [(0, .ref (ad k0)), (1, .ref (ad k1)), (2, .int (iI (v2_1 + (if 0 ≤ ((σ (k0 + 1) v3_1.toNat) - (σ (k1 + 1) v3_1.toNat)) then ((σ (k0 + 1) v3_1.toNat) - (σ (k1 + 1) v3_1.toNat)) else 0 - ((σ (k0 + 1) v3_1.toNat) - (σ (k1 + 1) v3_1.toNat)))))), (3, .int (iI v3_1))]) C dX2_stepsFrom_27 rfl (Nat.le_of_ble_eq_true rfl) [1, 2, 0, 3] rfl rfl ?_
        refine x_iinc (q := 31) (z' := v3_1 + 1) (lv' := [(0, .ref (ad k0)), (1, .ref (ad k1)), (2, .int (iI (v2_1 + (if 0 ≤ ((σ (k0 + 1) v3_1.toNat) - (σ (k1 + 1) v3_1.toNat)) then ((σ (k0 + 1) v3_1.toNat) - (σ (k1 + 1) v3_1.toNat)) else 0 - ((σ (k0 + 1) v3_1.toNat) - (σ (k1 + 1) v3_1.toNat)))))), (3, .int (iI (v3_1 + 1)))]) C dX2_stepsFrom_28 3 rfl rfl (Nat.le_of_ble_eq_true rfl) [1, 2, 3, 0] rfl rfl ?_
        refine x_goto (tgt := 4) C dX2_stepsFrom_31 rfl ?_
        obtain ⟨n6, hl7, h⟩ := h
        refine x_sub [0, 1, 2, 3] rfl ?_
        exact ih1 n6 hl7 _ _ h
  exact L1 n01 0 0 h01
abbrev rm_X2_copyFrom : Room := { frames := 1, cells := 0, slots := 0, locals := 26 }
def vc_X2_copyFrom (σ : GS) (k0 : Nat) (k1 : Nat) (Post : GS → Prop) : Prop :=
  (k0 = 6 ∨ k0 = 8) ∧
  ((k1 = 6 ∨ k1 = 8) ∧
  (Post (upR σ (k0 + 1) (cp (σ (k1 + 1)) (σ (k0 + 1)) (5 : Int).toNat))))
set_option maxHeartbeats 4000000 in
set_option maxRecDepth 10000 in
theorem m_X2_copyFrom (l : Launch) {ad : Nat → Nat} {D : va_G} {cI cZ cG : ClassId} (hI : Ij ad) {σ : GS} {k0 : Nat} {k1 : Nat} {Post : GS → Prop} (h : vc_X2_copyFrom σ k0 k1 Post) : Met l yX2_copyFrom (wX yX2_copyFrom cX2_copyFrom 2 none) rm_X2_copyFrom (va_Pc [.ref (ad k0), .ref (ad k1)] (Wd ad D cI cZ cG σ)) (QV ad D cI cZ cG Post) 0 0 (Aw ad) := by
  refine met_V (own := RX2) hI (by decide +kernel) rfl (Nat.le_of_ble_eq_true rfl) ?_
  intro p e s m args below meth c C
  unfold vc_X2_copyFrom at h
  show V p l e rm_X2_copyFrom s m args below meth c ad D cI cZ cG (Aw ad) 2 0 0 (MQ below (QV ad D cI cZ cG Post) args s 0 0 (Aw ad)) σ 0 [(0, .ref (ad k0)), (1, .ref (ad k1))] []
  obtain ⟨hp0, h⟩ := h
  have gk0 := gr_lay hp0
  obtain ⟨hp1, h⟩ := h
  have gk1 := gr_lay hp1
  refine x_aload_n (q := 1) (i := 1) C dX2_copyFrom_0 rfl 1 rfl rfl ?_
  refine x_getR (q := 4) (c0 := k1 + 1) C gk1.2.2.1 gk1.1 fk_RX2_9 rfl dX2_copyFrom_1 rfl ?_
  refine x_iconst (q := 5) (z := 0) C dX2_copyFrom_4 rfl rfl ?_
  refine x_aload_n (q := 6) (i := 0) C dX2_copyFrom_5 rfl 0 rfl rfl ?_
  refine x_getR (q := 9) (c0 := k0 + 1) C gk0.2.2.1 gk0.1 fk_RX2_9 rfl dX2_copyFrom_6 rfl ?_
  refine x_iconst (q := 10) (z := 0) C dX2_copyFrom_9 rfl rfl ?_
  refine x_iconst (q := 11) (z := 5) C dX2_copyFrom_10 rfl rfl ?_
  refine x_copy (q := 14) C gk1.2.2.2 gk1.2.1 gk0.2.2.2 gk0.2.1 ⟨Nat.le_of_ble_eq_true rfl, Nat.le_of_ble_eq_true rfl⟩ t2_191 ⟨t2_107, t2_106, t1_14⟩ ⟨Nat.le_of_ble_eq_true rfl, Nat.le_of_ble_eq_true rfl⟩ dX2_copyFrom_11 (by decide) rfl ?_
  exact x_vret C dX2_copyFrom_14 h
abbrev rm_X3_append : Room := { frames := 0, cells := 0, slots := 0, locals := 0 }
def vc_X3_append (σ : GS) (a0 : Int) (Post : Int → GS → Prop) : Prop :=
  (rg (σ 1 1)) ∧
  (((σ 1 1) < 64 →
    ((0 ≤ (σ 1 1) ∧ (σ 1 1) < 64) ∧
    (Post 1 (up2 (up2 σ 2 (σ 1 1).toNat a0) 1 1 (((up2 σ 2 (σ 1 1).toNat a0) 1 1) + 1))))) ∧
  (¬ (σ 1 1) < 64 →
    (Post 0 σ)))
set_option maxHeartbeats 4000000 in
set_option maxRecDepth 10000 in
theorem m_X3_append (l : Launch) {ad : Nat → Nat} {D : va_G} {cI cZ cG : ClassId} (hI : Ij ad) {σ : GS} {a0 : Int} {Post : Int → GS → Prop} (h : vc_X3_append σ a0 Post) : Met l yX3_append (wX yX3_append cX3_append 2 (some .boolean)) rm_X3_append (va_Pc [.ref (ad 1), .int (iI a0)] (Wd ad D cI cZ cG σ)) (QI ad D cI cZ cG Post) 0 0 (Aw ad) := by
  refine met_V (own := RX3) hI (by decide +kernel) rfl (Nat.le_of_ble_eq_true rfl) ?_
  intro p e s m args below meth c C
  unfold vc_X3_append at h
  show V p l e rm_X3_append s m args below meth c ad D cI cZ cG (Aw ad) 2 0 0 (MQ below (QI ad D cI cZ cG Post) args s 0 0 (Aw ad)) σ 0 [(0, .ref (ad 1)), (1, .int (iI a0))] []
  refine x_aload_n (q := 1) (i := 0) C dX3_append_0 rfl 0 rfl rfl ?_
  refine x_getI (q := 4) C (Nat.le_of_ble_eq_true rfl) ly_1 fk_RX3_15 rfl dX3_append_1 rfl ?_
  refine x_bipush (q := 6) (z := 64) C dX3_append_4 rfl rfl ?_
  obtain ⟨o1, h⟩ := h
  refine x_icmp_lt (q := 9) (tgt := 11) C dX3_append_6 rfl ⟨o1, by decide⟩ rfl (fun c2 => ?_) (fun c2 => ?_)
  · have h := h.1 c2
    refine x_aload_n (q := 12) (i := 0) C dX3_append_11 rfl 0 rfl rfl ?_
    refine x_getR (q := 15) (c0 := 2) C (Nat.le_of_ble_eq_true rfl) ly_1 fk_RX3_9 rfl dX3_append_12 rfl ?_
    refine x_aload_n (q := 16) (i := 0) C dX3_append_15 rfl 0 rfl rfl ?_
    refine x_getI (q := 19) C (Nat.le_of_ble_eq_true rfl) ly_1 fk_RX3_15 rfl dX3_append_16 rfl ?_
    refine x_iload_n (q := 20) (i := 1) C dX3_append_19 rfl 1 rfl rfl ?_
    obtain ⟨o3, h⟩ := h
    refine x_iast (q := 21) C (Nat.le_of_ble_eq_true rfl) ly_2 dX3_append_20 (ix o3 rfl) (Nat.le_of_ble_eq_true rfl)  rfl ?_
    refine x_aload_n (q := 22) (i := 0) C dX3_append_21 rfl 0 rfl rfl ?_
    refine x_dup (q := 23) C dX3_append_22 rfl rfl ?_
    refine x_getI (q := 26) C (Nat.le_of_ble_eq_true rfl) ly_1 fk_RX3_15 rfl dX3_append_23 rfl ?_
    refine x_iconst (q := 27) (z := 1) C dX3_append_26 rfl rfl ?_
    refine x_iadd (q := 28) C dX3_append_27  rfl ?_
    refine x_putI (q := 31) C (Nat.le_of_ble_eq_true rfl) ly_1 fk_RX3_15 rfl tyX3 tyX3_ok nmX3 rfl (tyX3_ok 1 (Nat.le_of_ble_eq_true rfl)) dX3_append_28 rfl ?_
    refine x_iconst (q := 32) (z := 1) C dX3_append_31 rfl rfl ?_
    exact x_zret C dX3_append_32 (by decide) h
  · have h := h.2 c2
    refine x_iconst (q := 10) (z := 0) C dX3_append_9 rfl rfl ?_
    exact x_zret C dX3_append_10 (by decide) h
abbrev rm_X3_clear : Room := { frames := 0, cells := 0, slots := 0, locals := 0 }
def vc_X3_clear (σ : GS)  (Post : GS → Prop) : Prop :=
  Post (up2 σ 1 1 0)
set_option maxHeartbeats 4000000 in
set_option maxRecDepth 10000 in
theorem m_X3_clear (l : Launch) {ad : Nat → Nat} {D : va_G} {cI cZ cG : ClassId} (hI : Ij ad) {σ : GS}  {Post : GS → Prop} (h : vc_X3_clear σ  Post) : Met l yX3_clear (wX yX3_clear cX3_clear 1 none) rm_X3_clear (va_Pc [.ref (ad 1)] (Wd ad D cI cZ cG σ)) (QV ad D cI cZ cG Post) 0 0 (Aw ad) := by
  refine met_V (own := RX3) hI (by decide +kernel) rfl (Nat.le_of_ble_eq_true rfl) ?_
  intro p e s m args below meth c C
  unfold vc_X3_clear at h
  show V p l e rm_X3_clear s m args below meth c ad D cI cZ cG (Aw ad) 1 0 0 (MQ below (QV ad D cI cZ cG Post) args s 0 0 (Aw ad)) σ 0 [(0, .ref (ad 1))] []
  refine x_aload_n (q := 1) (i := 0) C dX3_clear_0 rfl 0 rfl rfl ?_
  refine x_iconst (q := 2) (z := 0) C dX3_clear_1 rfl rfl ?_
  refine x_putI (q := 5) C (Nat.le_of_ble_eq_true rfl) ly_1 fk_RX3_15 rfl tyX3 tyX3_ok nmX3 rfl (tyX3_ok 1 (Nat.le_of_ble_eq_true rfl)) dX3_clear_2 rfl ?_
  exact x_vret C dX3_clear_5 h
abbrev rm_X9_isLetter : Room := { frames := 0, cells := 0, slots := 0, locals := 0 }
def vc_X9_isLetter (σ : GS) (a0 : Int) (Post : Int → Prop) : Prop :=
  (rg a0) ∧
  ((a0 < 97 →
    (Post 0)) ∧
  (¬ a0 < 97 →
    (((122 : Int) < a0 →
      (Post 0)) ∧
    (¬ (122 : Int) < a0 →
      (Post 1)))))
set_option maxHeartbeats 4000000 in
set_option maxRecDepth 10000 in
theorem m_X9_isLetter (l : Launch) {ad : Nat → Nat} {D : va_G} {cI cZ cG : ClassId} (hI : Ij ad) {σ : GS} {a0 : Int} {Post : Int → Prop} (h : vc_X9_isLetter σ a0 Post) : Met l yX9_isLetter (wX yX9_isLetter cX9_isLetter 1 (some .boolean)) rm_X9_isLetter (va_Pc [.int (iI a0)] (Wd ad D cI cZ cG σ)) (QI ad D cI cZ cG (fun z u => u = σ ∧ Post z)) 0 0 (Aw ad) := by
  refine met_V (own := RX9) hI (by decide +kernel) rfl (Nat.le_of_ble_eq_true rfl) ?_
  intro p e s m args below meth c C
  unfold vc_X9_isLetter at h
  show V p l e rm_X9_isLetter s m args below meth c ad D cI cZ cG (Aw ad) 1 0 0 (MQ below (QI ad D cI cZ cG (fun z u => u = σ ∧ Post z)) args s 0 0 (Aw ad)) σ 0 [(0, .int (iI a0))] []
  refine x_iload_n (q := 1) (i := 0) C dX9_isLetter_0 rfl 0 rfl rfl ?_
  refine x_bipush (q := 3) (z := 97) C dX9_isLetter_1 rfl rfl ?_
  obtain ⟨o1, h⟩ := h
  refine x_icmp_lt (q := 6) (tgt := 16) C dX9_isLetter_3 rfl ⟨o1, by decide⟩ rfl (fun c2 => ?_) (fun c2 => ?_)
  · have h := h.1 c2
    refine x_iconst (q := 17) (z := 0) C dX9_isLetter_16 rfl rfl ?_
    exact x_zret C dX9_isLetter_17 (by decide) ⟨rfl, h⟩
  · have h := h.2 c2
    refine x_iload_n (q := 7) (i := 0) C dX9_isLetter_6 rfl 0 rfl rfl ?_
    refine x_bipush (q := 9) (z := 122) C dX9_isLetter_7 rfl rfl ?_
    refine x_icmp_gt (q := 12) (tgt := 16) C dX9_isLetter_9 rfl ⟨o1, by decide⟩ rfl (fun c3 => ?_) (fun c3 => ?_)
    · have h := h.1 c3
      refine x_iconst (q := 17) (z := 0) C dX9_isLetter_16 rfl rfl ?_
      exact x_zret C dX9_isLetter_17 (by decide) ⟨rfl, h⟩
    · have h := h.2 c3
      refine x_iconst (q := 13) (z := 1) C dX9_isLetter_12 rfl rfl ?_
      refine x_goto (tgt := 17) C dX9_isLetter_13 rfl ?_
      exact x_zret C dX9_isLetter_17 (by decide) ⟨rfl, h⟩
abbrev rm_X3_canStand : Room := { frames := 1, cells := 0, slots := 0, locals := 20 }
def vc_X3_canStand (σ : GS) (a0 : Int) (a1 : Int) (Post : Int → Prop) : Prop :=
  (rg a1) ∧
  ((¬ a1 = 0 →
    ((a1 ≤ 60 →
      ((0 ≤ (a1 - 1) ∧ (a1 - 1) ≤ 2147483647) ∧
      ((rg ((a1 - 1) % 10)) ∧
      ((((a1 - 1) % 10) = 0 →
        ((rg a0) ∧
        ((¬ a0 = 66 →
          (Post 0)) ∧
        (a0 = 66 →
          (Post 1))))) ∧
      (((a1 - 1) % 10) = 1 →
        ((rg a0) ∧
        ((a0 < 48 →
          (Post 0)) ∧
        (¬ a0 < 48 →
          (((51 : Int) < a0 →
            (Post 0)) ∧
          (¬ (51 : Int) < a0 →
            (Post 1))))))) ∧
      (((a1 - 1) % 10) ≠ 0 → ((a1 - 1) % 10) ≠ 1 →
        (vc_X9_isLetter σ a0 (fun (z12 : Int) =>
          (z12 = 0 ∨ z12 = 1) ∧
        (Post z12)))))))) ∧
    (¬ a1 ≤ 60 →
      (Post 0)))) ∧
  (a1 = 0 →
    ((rg a0) ∧
    ((¬ a0 = 70 →
      (Post 0)) ∧
    (a0 = 70 →
      (Post 1))))))
set_option maxHeartbeats 4000000 in
set_option maxRecDepth 10000 in
theorem m_X3_canStand (l : Launch) {ad : Nat → Nat} {D : va_G} {cI cZ cG : ClassId} (hI : Ij ad) {σ : GS} {a0 : Int} {a1 : Int} {Post : Int → Prop} (h : vc_X3_canStand σ a0 a1 Post) : Met l yX3_canStand (wX yX3_canStand cX3_canStand 2 (some .boolean)) rm_X3_canStand (va_Pc [.int (iI a0), .int (iI a1)] (Wd ad D cI cZ cG σ)) (QI ad D cI cZ cG (fun z u => u = σ ∧ Post z)) 0 0 (Aw ad) := by
  refine met_V (own := RX3) hI (by decide +kernel) rfl (Nat.le_of_ble_eq_true rfl) ?_
  intro p e s m args below meth c C
  unfold vc_X3_canStand at h
  show V p l e rm_X3_canStand s m args below meth c ad D cI cZ cG (Aw ad) 2 0 0 (MQ below (QI ad D cI cZ cG (fun z u => u = σ ∧ Post z)) args s 0 0 (Aw ad)) σ 0 [(0, .int (iI a0)), (1, .int (iI a1))] []
  refine x_iload_n (q := 1) (i := 1) C dX3_canStand_0 rfl 1 rfl rfl ?_
  obtain ⟨o1, h⟩ := h
  refine x_if_ne (q := 4) (tgt := 16) C dX3_canStand_1 rfl o1 rfl (fun c2 => ?_) (fun c2 => ?_)
  · have h := h.1 c2
    refine x_iload_n (q := 17) (i := 1) C dX3_canStand_16 rfl 1 rfl rfl ?_
    refine x_bipush (q := 19) (z := 60) C dX3_canStand_17 rfl rfl ?_
    refine x_icmp_le (q := 22) (tgt := 24) C dX3_canStand_19 rfl ⟨o1, by decide⟩ rfl (fun c3 => ?_) (fun c3 => ?_)
    · have h := h.1 c3
      refine x_iload_n (q := 25) (i := 1) C dX3_canStand_24 rfl 1 rfl rfl ?_
      refine x_iconst (q := 26) (z := 1) C dX3_canStand_25 rfl rfl ?_
      refine x_isub (q := 27) C dX3_canStand_26  rfl ?_
      refine x_bipush (q := 29) (z := 10) C dX3_canStand_27 rfl rfl ?_
      obtain ⟨o4, h⟩ := h
      refine x_irem (q := 30) C dX3_canStand_29 ⟨o4, by decide⟩ rfl ?_
      obtain ⟨o5, h⟩ := h
      refine x_lookup2 C dX3_canStand_30 o5 (by decide) 86 56 68 rfl rfl rfl (fun c6 => ?_) (fun c6 => ?_) (fun c6 c6' => ?_)
      · have h := h.1 c6
        refine x_iload_n (q := 57) (i := 0) C dX3_canStand_56 rfl 0 rfl rfl ?_
        refine x_bipush (q := 59) (z := 66) C dX3_canStand_57 rfl rfl ?_
        obtain ⟨o7, h⟩ := h
        refine x_icmp_ne (q := 62) (tgt := 66) C dX3_canStand_59 rfl ⟨o7, by decide⟩ rfl (fun c8 => ?_) (fun c8 => ?_)
        · have h := h.1 c8
          refine x_iconst (q := 67) (z := 0) C dX3_canStand_66 rfl rfl ?_
          exact x_zret C dX3_canStand_67 (by decide) ⟨rfl, h⟩
        · have h := h.2 c8
          refine x_iconst (q := 63) (z := 1) C dX3_canStand_62 rfl rfl ?_
          refine x_goto (tgt := 67) C dX3_canStand_63 rfl ?_
          exact x_zret C dX3_canStand_67 (by decide) ⟨rfl, h⟩
      · have h := h.2.1 c6
        refine x_iload_n (q := 69) (i := 0) C dX3_canStand_68 rfl 0 rfl rfl ?_
        refine x_bipush (q := 71) (z := 48) C dX3_canStand_69 rfl rfl ?_
        obtain ⟨o9, h⟩ := h
        refine x_icmp_lt (q := 74) (tgt := 84) C dX3_canStand_71 rfl ⟨o9, by decide⟩ rfl (fun c10 => ?_) (fun c10 => ?_)
        · have h := h.1 c10
          refine x_iconst (q := 85) (z := 0) C dX3_canStand_84 rfl rfl ?_
          exact x_zret C dX3_canStand_85 (by decide) ⟨rfl, h⟩
        · have h := h.2 c10
          refine x_iload_n (q := 75) (i := 0) C dX3_canStand_74 rfl 0 rfl rfl ?_
          refine x_bipush (q := 77) (z := 51) C dX3_canStand_75 rfl rfl ?_
          refine x_icmp_gt (q := 80) (tgt := 84) C dX3_canStand_77 rfl ⟨o9, by decide⟩ rfl (fun c11 => ?_) (fun c11 => ?_)
          · have h := h.1 c11
            refine x_iconst (q := 85) (z := 0) C dX3_canStand_84 rfl rfl ?_
            exact x_zret C dX3_canStand_85 (by decide) ⟨rfl, h⟩
          · have h := h.2 c11
            refine x_iconst (q := 81) (z := 1) C dX3_canStand_80 rfl rfl ?_
            refine x_goto (tgt := 85) C dX3_canStand_81 rfl ?_
            exact x_zret C dX3_canStand_85 (by decide) ⟨rfl, h⟩
      · have h := h.2.2 c6 c6'
        refine x_iload_n (q := 87) (i := 0) C dX3_canStand_86 rfl 0 rfl rfl ?_
        refine x_nstI (q := 90) C C.2.2.2.2.2.1.2.1 nk_X9_isLetter t2_5 (m_X9_isLetter l hI h) ⟨⟨rfl, rfl⟩, ⟨Nat.le_of_ble_eq_true rfl, Nat.le_of_ble_eq_true rfl⟩, ⟨Nat.zero_le _, Nat.zero_le _⟩⟩ dX3_canStand_87 rfl rfl (Nat.le_of_ble_eq_true rfl) rfl (fun z12 σ12 h => ?_)
        rw [h.1]
        have h := h.2
        obtain ⟨o13, h⟩ := h
        exact x_zret C dX3_canStand_90 o13 ⟨rfl, h⟩
    · have h := h.2 c3
      refine x_iconst (q := 23) (z := 0) C dX3_canStand_22 rfl rfl ?_
      exact x_zret C dX3_canStand_23 (by decide) ⟨rfl, h⟩
  · have h := h.2 c2
    refine x_iload_n (q := 5) (i := 0) C dX3_canStand_4 rfl 0 rfl rfl ?_
    refine x_bipush (q := 7) (z := 70) C dX3_canStand_5 rfl rfl ?_
    obtain ⟨o14, h⟩ := h
    refine x_icmp_ne (q := 10) (tgt := 14) C dX3_canStand_7 rfl ⟨o14, by decide⟩ rfl (fun c15 => ?_) (fun c15 => ?_)
    · have h := h.1 c15
      refine x_iconst (q := 15) (z := 0) C dX3_canStand_14 rfl rfl ?_
      exact x_zret C dX3_canStand_15 (by decide) ⟨rfl, h⟩
    · have h := h.2 c15
      refine x_iconst (q := 11) (z := 1) C dX3_canStand_10 rfl rfl ?_
      refine x_goto (tgt := 15) C dX3_canStand_11 rfl ?_
      exact x_zret C dX3_canStand_15 (by decide) ⟨rfl, h⟩
abbrev rm_X3_firstFault : Room := { frames := 2, cells := 0, slots := 0, locals := 41 }
def vc_X3_firstFault (σ : GS)  (Post : Int → Prop) : Prop :=
  ∃ I1 : Nat → Int → Prop, (∃ n : Nat, I1 n 0) ∧ ∀ (n1 : Nat) (v1_1 : Int), I1 n1 v1_1 →
  ((rg v1_1) ∧
      ((rg (σ 1 1)) ∧
      (((σ 1 1) ≤ v1_1 →
        ((0 ≤ (σ 1 1) ∧ (σ 1 1) ≤ 2147483647) ∧
        ((rg ((σ 1 1) % 10)) ∧
        ((¬ ((σ 1 1) % 10) = 1 →
          (Post (σ 1 1))) ∧
        (((σ 1 1) % 10) = 1 →
          (Post (-9))))))) ∧
      (¬ (σ 1 1) ≤ v1_1 →
        ((0 ≤ v1_1 ∧ v1_1 < 64) ∧
        (vc_X3_canStand σ (σ 2 v1_1.toNat) v1_1 (fun (z9 : Int) =>
          (rg z9) ∧
        ((¬ z9 = 0 →
          (∃ n' : Nat, n' < n1 ∧ I1 n' (v1_1 + 1))) ∧
        (z9 = 0 →
          (Post v1_1))))))))))
set_option maxHeartbeats 4000000 in
set_option maxRecDepth 10000 in
theorem m_X3_firstFault (l : Launch) {ad : Nat → Nat} {D : va_G} {cI cZ cG : ClassId} (hI : Ij ad) {σ : GS}  {Post : Int → Prop} (h : vc_X3_firstFault σ  Post) : Met l yX3_firstFault (wX yX3_firstFault cX3_firstFault 2 (some .int)) rm_X3_firstFault (va_Pc [.ref (ad 1)] (Wd ad D cI cZ cG σ)) (QI ad D cI cZ cG (fun z u => u = σ ∧ Post z)) 0 0 (Aw ad) := by
  refine met_V (own := RX3) hI (by decide +kernel) rfl (Nat.le_of_ble_eq_true rfl) ?_
  intro p e s m args below meth c C
  unfold vc_X3_firstFault at h
  show V p l e rm_X3_firstFault s m args below meth c ad D cI cZ cG (Aw ad) 2 0 0 (MQ below (QI ad D cI cZ cG (fun z u => u = σ ∧ Post z)) args s 0 0 (Aw ad)) σ 0 [(0, .ref (ad 1))] []
  refine x_iconst (q := 1) (z := 0) C dX3_firstFault_0 rfl rfl ?_
  refine x_istore_n (q := 2) (i := 1) (lv' := [(0, .ref (ad 1)), (1, .int (iI 0))]) C dX3_firstFault_1 rfl (Nat.le_of_ble_eq_true rfl) [1, 0] rfl rfl ?_
  obtain ⟨I1, ⟨n01, h01⟩, hs1⟩ := h
  have L1 : ∀ (n1 : Nat) (v1_1 : Int), I1 n1 v1_1 → V p l e rm_X3_firstFault s m args below meth c ad D cI cZ cG (Aw ad) 2 0 0 (MQ below (QI ad D cI cZ cG (fun z u => u = σ ∧ Post z)) args s 0 0 (Aw ad)) σ 2 [(0, .ref (ad 1)), (1, .int (iI v1_1))] [] := by
    intro n1
    induction n1 using Nat.strongRecOn with
    | ind n1 ih1 =>
      intro v1_1 h
      have h := hs1 n1 v1_1 h
      refine x_iload_n (q := 3) (i := 1) C dX3_firstFault_2 rfl 1 rfl rfl ?_
      refine x_aload_n (q := 4) (i := 0) C dX3_firstFault_3 rfl 0 rfl rfl ?_
      refine x_getI (q := 7) C (Nat.le_of_ble_eq_true rfl) ly_1 fk_RX3_15 rfl dX3_firstFault_4 rfl ?_
      obtain ⟨o2, h⟩ := h
      obtain ⟨o3, h⟩ := h
      refine x_icmp_ge (q := 10) (tgt := 31) C dX3_firstFault_7 rfl ⟨o2, o3⟩ rfl (fun c4 => ?_) (fun c4 => ?_)
      · have h := h.1 c4
        refine x_aload_n (q := 32) (i := 0) C dX3_firstFault_31 rfl 0 rfl rfl ?_
        refine x_getI (q := 35) C (Nat.le_of_ble_eq_true rfl) ly_1 fk_RX3_15 rfl dX3_firstFault_32 rfl ?_
        refine x_bipush (q := 37) (z := 10) C dX3_firstFault_35 rfl rfl ?_
        obtain ⟨o5, h⟩ := h
        refine x_irem (q := 38) C dX3_firstFault_37 ⟨o5, by decide⟩ rfl ?_
        refine x_iconst (q := 39) (z := 1) C dX3_firstFault_38 rfl rfl ?_
        obtain ⟨o6, h⟩ := h
        refine x_icmp_ne (q := 42) (tgt := 47) C dX3_firstFault_39 rfl ⟨o6, by decide⟩ rfl (fun c7 => ?_) (fun c7 => ?_)
        · have h := h.1 c7
          refine x_aload_n (q := 48) (i := 0) C dX3_firstFault_47 rfl 0 rfl rfl ?_
          refine x_getI (q := 51) C (Nat.le_of_ble_eq_true rfl) ly_1 fk_RX3_15 rfl dX3_firstFault_48 rfl ?_
          exact x_iret C dX3_firstFault_51 ⟨rfl, h⟩
        · have h := h.2 c7
          refine x_bipush (q := 44) (z := (-9)) C dX3_firstFault_42 rfl rfl ?_
          refine x_goto (tgt := 51) C dX3_firstFault_44 rfl ?_
          exact x_iret C dX3_firstFault_51 ⟨rfl, h⟩
      · have h := h.2 c4
        refine x_aload_n (q := 11) (i := 0) C dX3_firstFault_10 rfl 0 rfl rfl ?_
        refine x_getR (q := 14) (c0 := 2) C (Nat.le_of_ble_eq_true rfl) ly_1 fk_RX3_9 rfl dX3_firstFault_11 rfl ?_
        refine x_iload_n (q := 15) (i := 1) C dX3_firstFault_14 rfl 1 rfl rfl ?_
        obtain ⟨o8, h⟩ := h
        refine x_iald (q := 16) C (Nat.le_of_ble_eq_true rfl) ly_2 dX3_firstFault_15 (ix o8 rfl) (Nat.le_of_ble_eq_true rfl) rfl ?_
        refine x_iload_n (q := 17) (i := 1) C dX3_firstFault_16 rfl 1 rfl rfl ?_
        refine x_staI (q := 20) C ck_RX3_19 t2_2 (m_X3_canStand l hI h) ⟨⟨rfl, rfl⟩, ⟨Nat.le_of_ble_eq_true rfl, Nat.le_of_ble_eq_true rfl⟩, ⟨Nat.zero_le _, Nat.zero_le _⟩⟩ dX3_firstFault_17 rfl rfl (Nat.le_of_ble_eq_true rfl) rfl (fun z9 σ9 h => ?_)
        rw [h.1]
        have h := h.2
        obtain ⟨o10, h⟩ := h
        refine x_if_ne (q := 23) (tgt := 25) C dX3_firstFault_20 rfl o10 rfl (fun c11 => ?_) (fun c11 => ?_)
        · have h := h.1 c11
          refine x_iinc (q := 28) (z' := v1_1 + 1) (lv' := [(0, .ref (ad 1)), (1, .int (iI (v1_1 + 1)))]) C dX3_firstFault_25 1 rfl rfl (Nat.le_of_ble_eq_true rfl) [1, 0] rfl rfl ?_
          refine x_goto (tgt := 2) C dX3_firstFault_28 rfl ?_
          obtain ⟨n12, hl13, h⟩ := h
          refine x_sub [0, 1] rfl ?_
          exact ih1 n12 hl13 _ h
        · have h := h.2 c11
          refine x_iload_n (q := 24) (i := 1) C dX3_firstFault_23 rfl 1 rfl rfl ?_
          exact x_iret C dX3_firstFault_24 ⟨rfl, h⟩
  exact L1 n01 0 h01
abbrev rm_X4_has : Room := { frames := 0, cells := 0, slots := 0, locals := 0 }
def vc_X4_has (σ : GS) (a0 : Int) (Post : Int → Prop) : Prop :=
  (rg a0) ∧
  ((a0 < 0 →
    (Post 0)) ∧
  (¬ a0 < 0 →
    (((2 : Int) ≤ a0 →
      (Post 0)) ∧
    (¬ (2 : Int) ≤ a0 →
      (Post 1)))))
set_option maxHeartbeats 4000000 in
set_option maxRecDepth 10000 in
theorem m_X4_has (l : Launch) {ad : Nat → Nat} {D : va_G} {cI cZ cG : ClassId} (hI : Ij ad) {σ : GS} {a0 : Int} {Post : Int → Prop} (h : vc_X4_has σ a0 Post) : Met l yX4_has (wX yX4_has cX4_has 2 (some .boolean)) rm_X4_has (va_Pc [.ref (ad 39), .int (iI a0)] (Wd ad D cI cZ cG σ)) (QI ad D cI cZ cG (fun z u => u = σ ∧ Post z)) 0 0 (Aw ad) := by
  refine met_V (own := RX4) hI (by decide +kernel) rfl (Nat.le_of_ble_eq_true rfl) ?_
  intro p e s m args below meth c C
  unfold vc_X4_has at h
  show V p l e rm_X4_has s m args below meth c ad D cI cZ cG (Aw ad) 2 0 0 (MQ below (QI ad D cI cZ cG (fun z u => u = σ ∧ Post z)) args s 0 0 (Aw ad)) σ 0 [(0, .ref (ad 39)), (1, .int (iI a0))] []
  refine x_iload_n (q := 1) (i := 1) C dX4_has_0 rfl 1 rfl rfl ?_
  obtain ⟨o1, h⟩ := h
  refine x_if_lt (q := 4) (tgt := 13) C dX4_has_1 rfl o1 rfl (fun c2 => ?_) (fun c2 => ?_)
  · have h := h.1 c2
    refine x_iconst (q := 14) (z := 0) C dX4_has_13 rfl rfl ?_
    exact x_zret C dX4_has_14 (by decide) ⟨rfl, h⟩
  · have h := h.2 c2
    refine x_iload_n (q := 5) (i := 1) C dX4_has_4 rfl 1 rfl rfl ?_
    refine x_iconst (q := 6) (z := 2) C dX4_has_5 rfl rfl ?_
    refine x_icmp_ge (q := 9) (tgt := 13) C dX4_has_6 rfl ⟨o1, by decide⟩ rfl (fun c3 => ?_) (fun c3 => ?_)
    · have h := h.1 c3
      refine x_iconst (q := 14) (z := 0) C dX4_has_13 rfl rfl ?_
      exact x_zret C dX4_has_14 (by decide) ⟨rfl, h⟩
    · have h := h.2 c3
      refine x_iconst (q := 10) (z := 1) C dX4_has_9 rfl rfl ?_
      refine x_goto (tgt := 14) C dX4_has_10 rfl ?_
      exact x_zret C dX4_has_14 (by decide) ⟨rfl, h⟩
abbrev rm_X4_clear : Room := { frames := 0, cells := 0, slots := 0, locals := 0 }
def vc_X4_clear (σ : GS)  (Post : GS → Prop) : Prop :=
  ∃ I1 : Nat → Int → GS → Prop, (∃ n : Nat, I1 n 0 σ) ∧ ∀ (n1 : Nat) (v1_1 : Int) (σ1 : GS), I1 n1 v1_1 σ1 →
  ((rg v1_1) ∧
      (((2 : Int) ≤ v1_1 →
        (Post σ1)) ∧
      (¬ (2 : Int) ≤ v1_1 →
        ((0 ≤ v1_1 ∧ v1_1 < 2) ∧
        (∃ n' : Nat, n' < n1 ∧ I1 n' (v1_1 + 1) (up2 σ1 43 v1_1.toNat 0))))))
set_option maxHeartbeats 4000000 in
set_option maxRecDepth 10000 in
theorem m_X4_clear (l : Launch) {ad : Nat → Nat} {D : va_G} {cI cZ cG : ClassId} (hI : Ij ad) {σ : GS}  {Post : GS → Prop} (h : vc_X4_clear σ  Post) : Met l yX4_clear (wX yX4_clear cX4_clear 2 none) rm_X4_clear (va_Pc [.ref (ad 39)] (Wd ad D cI cZ cG σ)) (QV ad D cI cZ cG Post) 0 0 (Aw ad) := by
  refine met_V (own := RX4) hI (by decide +kernel) rfl (Nat.le_of_ble_eq_true rfl) ?_
  intro p e s m args below meth c C
  unfold vc_X4_clear at h
  show V p l e rm_X4_clear s m args below meth c ad D cI cZ cG (Aw ad) 2 0 0 (MQ below (QV ad D cI cZ cG Post) args s 0 0 (Aw ad)) σ 0 [(0, .ref (ad 39))] []
  refine x_iconst (q := 1) (z := 0) C dX4_clear_0 rfl rfl ?_
  refine x_istore_n (q := 2) (i := 1) (lv' := [(0, .ref (ad 39)), (1, .int (iI 0))]) C dX4_clear_1 rfl (Nat.le_of_ble_eq_true rfl) [1, 0] rfl rfl ?_
  obtain ⟨I1, ⟨n01, h01⟩, hs1⟩ := h
  have L1 : ∀ (n1 : Nat) (v1_1 : Int) (σ1 : GS), I1 n1 v1_1 σ1 → V p l e rm_X4_clear s m args below meth c ad D cI cZ cG (Aw ad) 2 0 0 (MQ below (QV ad D cI cZ cG Post) args s 0 0 (Aw ad)) σ1 2 [(0, .ref (ad 39)), (1, .int (iI v1_1))] [] := by
    intro n1
    induction n1 using Nat.strongRecOn with
    | ind n1 ih1 =>
      intro v1_1 σ1 h
      have h := hs1 n1 v1_1 σ1 h
      refine x_iload_n (q := 3) (i := 1) C dX4_clear_2 rfl 1 rfl rfl ?_
      refine x_iconst (q := 4) (z := 2) C dX4_clear_3 rfl rfl ?_
      obtain ⟨o2, h⟩ := h
      refine x_icmp_ge (q := 7) (tgt := 20) C dX4_clear_4 rfl ⟨o2, by decide⟩ rfl (fun c3 => ?_) (fun c3 => ?_)
      · have h := h.1 c3
        exact x_vret C dX4_clear_20 h
      · have h := h.2 c3
        refine x_aload_n (q := 8) (i := 0) C dX4_clear_7 rfl 0 rfl rfl ?_
        refine x_getR (q := 11) (c0 := 43) C (Nat.le_of_ble_eq_true rfl) ly_39 fk_RX4_16 rfl dX4_clear_8 rfl ?_
        refine x_iload_n (q := 12) (i := 1) C dX4_clear_11 rfl 1 rfl rfl ?_
        refine x_iconst (q := 13) (z := 0) C dX4_clear_12 rfl rfl ?_
        obtain ⟨o4, h⟩ := h
        refine x_bast (q := 14) C (Nat.le_of_ble_eq_true rfl) ly_43 dX4_clear_13 (ix o4 rfl) (Nat.le_of_ble_eq_true rfl) (by decide) rfl ?_
        refine x_iinc (q := 17) (z' := v1_1 + 1) (lv' := [(0, .ref (ad 39)), (1, .int (iI (v1_1 + 1)))]) C dX4_clear_14 1 rfl rfl (Nat.le_of_ble_eq_true rfl) [1, 0] rfl rfl ?_
        refine x_goto (tgt := 2) C dX4_clear_17 rfl ?_
        obtain ⟨n5, hl6, h⟩ := h
        refine x_sub [0, 1] rfl ?_
        exact ih1 n5 hl6 _ _ h
  exact L1 n01 0 σ h01
abbrev rm_X4_store : Room := { frames := 2, cells := 0, slots := 0, locals := 47 }
def vc_X4_store (σ : GS) (a0 : Int) (k2 : Nat) (Post : Int → GS → Prop) : Prop :=
  (k2 = 6 ∨ k2 = 8) ∧
  (vc_X4_has σ a0 (fun (z1 : Int) =>
    (rg z1) ∧
  ((¬ z1 = 0 →
    ((0 ≤ a0 ∧ a0 < 2) ∧
    (vc_X2_copyTo σ k2 (41 + a0.toNat) (fun (σ6 : GS) =>
      Post 1 (up2 σ6 43 a0.toNat 1))))) ∧
  (z1 = 0 →
    (Post 0 σ)))))
set_option maxHeartbeats 4000000 in
set_option maxRecDepth 10000 in
theorem m_X4_store (l : Launch) {ad : Nat → Nat} {D : va_G} {cI cZ cG : ClassId} (hI : Ij ad) {σ : GS} {a0 : Int} {k2 : Nat} {Post : Int → GS → Prop} (h : vc_X4_store σ a0 k2 Post) : Met l yX4_store (wX yX4_store cX4_store 3 (some .boolean)) rm_X4_store (va_Pc [.ref (ad 39), .int (iI a0), .ref (ad k2)] (Wd ad D cI cZ cG σ)) (QI ad D cI cZ cG Post) 0 0 (Aw ad) := by
  refine met_V (own := RX4) hI (by decide +kernel) rfl (Nat.le_of_ble_eq_true rfl) ?_
  intro p e s m args below meth c C
  unfold vc_X4_store at h
  show V p l e rm_X4_store s m args below meth c ad D cI cZ cG (Aw ad) 3 0 0 (MQ below (QI ad D cI cZ cG Post) args s 0 0 (Aw ad)) σ 0 [(0, .ref (ad 39)), (1, .int (iI a0)), (2, .ref (ad k2))] []
  obtain ⟨hp0, h⟩ := h
  have gk2 := gr_lay hp0
  refine x_aload_n (q := 1) (i := 0) C dX4_store_0 rfl 0 rfl rfl ?_
  refine x_iload_n (q := 2) (i := 1) C dX4_store_1 rfl 1 rfl rfl ?_
  refine x_virI (q := 5) C (Nat.le_of_ble_eq_true rfl) ly_39 rfl ck_RX4_20 vk_X4_has (m_X4_has l hI h) ⟨⟨rfl, rfl⟩, ⟨Nat.le_of_ble_eq_true rfl, Nat.le_of_ble_eq_true rfl⟩, ⟨Nat.zero_le _, Nat.zero_le _⟩⟩ dX4_store_2 rfl rfl (Nat.le_of_ble_eq_true rfl) rfl (fun z1 σ1 h => ?_)
  rw [h.1]
  have h := h.2
  obtain ⟨o2, h⟩ := h
  refine x_if_ne (q := 8) (tgt := 10) C dX4_store_5 rfl o2 rfl (fun c3 => ?_) (fun c3 => ?_)
  · have h := h.1 c3
    refine x_aload_n (q := 11) (i := 2) C dX4_store_10 rfl 2 rfl rfl ?_
    refine x_aload_n (q := 12) (i := 0) C dX4_store_11 rfl 0 rfl rfl ?_
    refine x_getR (q := 15) (c0 := 40) C (Nat.le_of_ble_eq_true rfl) ly_39 fk_RX4_11 rfl dX4_store_12 rfl ?_
    refine x_iload_n (q := 16) (i := 1) C dX4_store_15 rfl 1 rfl rfl ?_
    obtain ⟨o4, h⟩ := h
    have r5 := ra_40 (ix o4 rfl)
    refine x_aald (q := 17) C (Nat.le_of_ble_eq_true rfl) ly_40 dX4_store_16 (ix o4 rfl) (Nat.le_of_ble_eq_true rfl) rfl ?_
    refine x_virV (q := 20) C gk2.2.2.1 gk2.1 rfl ck_RX4_24 vk_X2_copyTo (m_X2_copyTo l hI h) ⟨⟨rfl, rfl⟩, ⟨Nat.le_of_ble_eq_true rfl, Nat.le_of_ble_eq_true rfl⟩, ⟨Nat.zero_le _, Nat.zero_le _⟩⟩ dX4_store_17 rfl rfl (Nat.le_of_ble_eq_true rfl) rfl (fun σ6 h => ?_)
    refine x_aload_n (q := 21) (i := 0) C dX4_store_20 rfl 0 rfl rfl ?_
    refine x_getR (q := 24) (c0 := 43) C (Nat.le_of_ble_eq_true rfl) ly_39 fk_RX4_16 rfl dX4_store_21 rfl ?_
    refine x_iload_n (q := 25) (i := 1) C dX4_store_24 rfl 1 rfl rfl ?_
    refine x_iconst (q := 26) (z := 1) C dX4_store_25 rfl rfl ?_
    refine x_bast (q := 27) C (Nat.le_of_ble_eq_true rfl) ly_43 dX4_store_26 (ix o4 rfl) (Nat.le_of_ble_eq_true rfl) (by decide) rfl ?_
    refine x_iconst (q := 28) (z := 1) C dX4_store_27 rfl rfl ?_
    exact x_zret C dX4_store_28 (by decide) h
  · have h := h.2 c3
    refine x_iconst (q := 9) (z := 0) C dX4_store_8 rfl rfl ?_
    exact x_zret C dX4_store_9 (by decide) h
abbrev rm_X4_restore : Room := { frames := 2, cells := 0, slots := 0, locals := 47 }
def vc_X4_restore (σ : GS) (a0 : Int) (k2 : Nat) (Post : Int → GS → Prop) : Prop :=
  (k2 = 6 ∨ k2 = 8) ∧
  (vc_X4_has σ a0 (fun (z1 : Int) =>
    (rg z1) ∧
  ((z1 = 0 →
    (Post 0 σ)) ∧
  (¬ z1 = 0 →
    ((0 ≤ a0 ∧ a0 < 2) ∧
    ((rg (σ 43 a0.toNat)) ∧
    ((¬ (σ 43 a0.toNat) = 0 →
      (vc_X2_copyBack σ k2 (41 + a0.toNat) (fun (σ8 : GS) =>
        Post 1 σ8))) ∧
    ((σ 43 a0.toNat) = 0 →
      (Post 0 σ)))))))))
set_option maxHeartbeats 4000000 in
set_option maxRecDepth 10000 in
theorem m_X4_restore (l : Launch) {ad : Nat → Nat} {D : va_G} {cI cZ cG : ClassId} (hI : Ij ad) {σ : GS} {a0 : Int} {k2 : Nat} {Post : Int → GS → Prop} (h : vc_X4_restore σ a0 k2 Post) : Met l yX4_restore (wX yX4_restore cX4_restore 3 (some .boolean)) rm_X4_restore (va_Pc [.ref (ad 39), .int (iI a0), .ref (ad k2)] (Wd ad D cI cZ cG σ)) (QI ad D cI cZ cG Post) 0 0 (Aw ad) := by
  refine met_V (own := RX4) hI (by decide +kernel) rfl (Nat.le_of_ble_eq_true rfl) ?_
  intro p e s m args below meth c C
  unfold vc_X4_restore at h
  show V p l e rm_X4_restore s m args below meth c ad D cI cZ cG (Aw ad) 3 0 0 (MQ below (QI ad D cI cZ cG Post) args s 0 0 (Aw ad)) σ 0 [(0, .ref (ad 39)), (1, .int (iI a0)), (2, .ref (ad k2))] []
  obtain ⟨hp0, h⟩ := h
  have gk2 := gr_lay hp0
  refine x_aload_n (q := 1) (i := 0) C dX4_restore_0 rfl 0 rfl rfl ?_
  refine x_iload_n (q := 2) (i := 1) C dX4_restore_1 rfl 1 rfl rfl ?_
  refine x_virI (q := 5) C (Nat.le_of_ble_eq_true rfl) ly_39 rfl ck_RX4_20 vk_X4_has (m_X4_has l hI h) ⟨⟨rfl, rfl⟩, ⟨Nat.le_of_ble_eq_true rfl, Nat.le_of_ble_eq_true rfl⟩, ⟨Nat.zero_le _, Nat.zero_le _⟩⟩ dX4_restore_2 rfl rfl (Nat.le_of_ble_eq_true rfl) rfl (fun z1 σ1 h => ?_)
  rw [h.1]
  have h := h.2
  obtain ⟨o2, h⟩ := h
  refine x_if_eq (q := 8) (tgt := 17) C dX4_restore_5 rfl o2 rfl (fun c3 => ?_) (fun c3 => ?_)
  · have h := h.1 c3
    refine x_iconst (q := 18) (z := 0) C dX4_restore_17 rfl rfl ?_
    exact x_zret C dX4_restore_18 (by decide) h
  · have h := h.2 c3
    refine x_aload_n (q := 9) (i := 0) C dX4_restore_8 rfl 0 rfl rfl ?_
    refine x_getR (q := 12) (c0 := 43) C (Nat.le_of_ble_eq_true rfl) ly_39 fk_RX4_16 rfl dX4_restore_9 rfl ?_
    refine x_iload_n (q := 13) (i := 1) C dX4_restore_12 rfl 1 rfl rfl ?_
    obtain ⟨o4, h⟩ := h
    refine x_bald (q := 14) C (Nat.le_of_ble_eq_true rfl) ly_43 dX4_restore_13 (ix o4 rfl) (Nat.le_of_ble_eq_true rfl) rfl ?_
    obtain ⟨o5, h⟩ := h
    refine x_if_ne (q := 17) (tgt := 19) C dX4_restore_14 rfl o5 rfl (fun c6 => ?_) (fun c6 => ?_)
    · have h := h.1 c6
      refine x_aload_n (q := 20) (i := 2) C dX4_restore_19 rfl 2 rfl rfl ?_
      refine x_aload_n (q := 21) (i := 0) C dX4_restore_20 rfl 0 rfl rfl ?_
      refine x_getR (q := 24) (c0 := 40) C (Nat.le_of_ble_eq_true rfl) ly_39 fk_RX4_11 rfl dX4_restore_21 rfl ?_
      refine x_iload_n (q := 25) (i := 1) C dX4_restore_24 rfl 1 rfl rfl ?_
      have r7 := ra_40 (ix o4 rfl)
      refine x_aald (q := 26) C (Nat.le_of_ble_eq_true rfl) ly_40 dX4_restore_25 (ix o4 rfl) (Nat.le_of_ble_eq_true rfl) rfl ?_
      refine x_virV (q := 29) C gk2.2.2.1 gk2.1 rfl ck_RX4_30 vk_X2_copyBack (m_X2_copyBack l hI h) ⟨⟨rfl, rfl⟩, ⟨Nat.le_of_ble_eq_true rfl, Nat.le_of_ble_eq_true rfl⟩, ⟨Nat.zero_le _, Nat.zero_le _⟩⟩ dX4_restore_26 rfl rfl (Nat.le_of_ble_eq_true rfl) rfl (fun σ8 h => ?_)
      refine x_iconst (q := 30) (z := 1) C dX4_restore_29 rfl rfl ?_
      exact x_zret C dX4_restore_30 (by decide) h
    · have h := h.2 c6
      refine x_iconst (q := 18) (z := 0) C dX4_restore_17 rfl rfl ?_
      exact x_zret C dX4_restore_18 (by decide) h
abbrev rm_X5_size : Room := { frames := 0, cells := 0, slots := 0, locals := 0 }
def vc_X5_size (σ : GS)  (Post : Int → Prop) : Prop :=
  Post (σ 44 3)
set_option maxHeartbeats 4000000 in
set_option maxRecDepth 10000 in
theorem m_X5_size (l : Launch) {ad : Nat → Nat} {D : va_G} {cI cZ cG : ClassId} (hI : Ij ad) {σ : GS}  {Post : Int → Prop} (h : vc_X5_size σ  Post) : Met l yX5_size (wX yX5_size cX5_size 1 (some .int)) rm_X5_size (va_Pc [.ref (ad 44)] (Wd ad D cI cZ cG σ)) (QI ad D cI cZ cG (fun z u => u = σ ∧ Post z)) 0 0 (Aw ad) := by
  refine met_V (own := RX5) hI (by decide +kernel) rfl (Nat.le_of_ble_eq_true rfl) ?_
  intro p e s m args below meth c C
  unfold vc_X5_size at h
  show V p l e rm_X5_size s m args below meth c ad D cI cZ cG (Aw ad) 1 0 0 (MQ below (QI ad D cI cZ cG (fun z u => u = σ ∧ Post z)) args s 0 0 (Aw ad)) σ 0 [(0, .ref (ad 44))] []
  refine x_aload_n (q := 1) (i := 0) C dX5_size_0 rfl 0 rfl rfl ?_
  refine x_getI (q := 4) C (Nat.le_of_ble_eq_true rfl) ly_44 fk_RX5_22 rfl dX5_size_1 rfl ?_
  exact x_iret C dX5_size_4 ⟨rfl, h⟩
abbrev rm_X5_clear : Room := { frames := 0, cells := 0, slots := 0, locals := 0 }
def vc_X5_clear (σ : GS)  (Post : GS → Prop) : Prop :=
  Post (up2 σ 44 3 0)
set_option maxHeartbeats 4000000 in
set_option maxRecDepth 10000 in
theorem m_X5_clear (l : Launch) {ad : Nat → Nat} {D : va_G} {cI cZ cG : ClassId} (hI : Ij ad) {σ : GS}  {Post : GS → Prop} (h : vc_X5_clear σ  Post) : Met l yX5_clear (wX yX5_clear cX5_clear 1 none) rm_X5_clear (va_Pc [.ref (ad 44)] (Wd ad D cI cZ cG σ)) (QV ad D cI cZ cG Post) 0 0 (Aw ad) := by
  refine met_V (own := RX5) hI (by decide +kernel) rfl (Nat.le_of_ble_eq_true rfl) ?_
  intro p e s m args below meth c C
  unfold vc_X5_clear at h
  show V p l e rm_X5_clear s m args below meth c ad D cI cZ cG (Aw ad) 1 0 0 (MQ below (QV ad D cI cZ cG Post) args s 0 0 (Aw ad)) σ 0 [(0, .ref (ad 44))] []
  refine x_aload_n (q := 1) (i := 0) C dX5_clear_0 rfl 0 rfl rfl ?_
  refine x_iconst (q := 2) (z := 0) C dX5_clear_1 rfl rfl ?_
  refine x_putI (q := 5) C (Nat.le_of_ble_eq_true rfl) ly_44 fk_RX5_22 rfl tyX5 tyX5_ok nmX5 rfl (tyX5_ok 3 (Nat.le_of_ble_eq_true rfl)) dX5_clear_2 rfl ?_
  exact x_vret C dX5_clear_5 h
abbrev rm_X5_add : Room := { frames := 0, cells := 0, slots := 0, locals := 0 }
def vc_X5_add (σ : GS) (a0 : Int) (a1 : Int) (a2 : Int) (Post : Int → GS → Prop) : Prop :=
  (rg (σ 44 3)) ∧
  (((σ 44 3) < 6 →
    ((0 ≤ (σ 44 3) ∧ (σ 44 3) < 6) ∧
    ((0 ≤ ((up2 σ 45 (σ 44 3).toNat a0) 44 3) ∧ ((up2 σ 45 (σ 44 3).toNat a0) 44 3) < 6) ∧
    ((0 ≤ ((up2 (up2 σ 45 (σ 44 3).toNat a0) 46 ((up2 σ 45 (σ 44 3).toNat a0) 44 3).toNat a1) 44 3) ∧ ((up2 (up2 σ 45 (σ 44 3).toNat a0) 46 ((up2 σ 45 (σ 44 3).toNat a0) 44 3).toNat a1) 44 3) < 6) ∧
    ((a2 = 0 ∨ a2 = 1) ∧
    (Post 1 (up2 (up2 (up2 (up2 σ 45 (σ 44 3).toNat a0) 46 ((up2 σ 45 (σ 44 3).toNat a0) 44 3).toNat a1) 47 ((up2 (up2 σ 45 (σ 44 3).toNat a0) 46 ((up2 σ 45 (σ 44 3).toNat a0) 44 3).toNat a1) 44 3).toNat a2) 44 3 (((up2 (up2 (up2 σ 45 (σ 44 3).toNat a0) 46 ((up2 σ 45 (σ 44 3).toNat a0) 44 3).toNat a1) 47 ((up2 (up2 σ 45 (σ 44 3).toNat a0) 46 ((up2 σ 45 (σ 44 3).toNat a0) 44 3).toNat a1) 44 3).toNat a2) 44 3) + 1)))))))) ∧
  (¬ (σ 44 3) < 6 →
    (Post 0 σ)))
set_option maxHeartbeats 4000000 in
set_option maxRecDepth 10000 in
theorem m_X5_add (l : Launch) {ad : Nat → Nat} {D : va_G} {cI cZ cG : ClassId} (hI : Ij ad) {σ : GS} {a0 : Int} {a1 : Int} {a2 : Int} {Post : Int → GS → Prop} (h : vc_X5_add σ a0 a1 a2 Post) : Met l yX5_add (wX yX5_add cX5_add 4 (some .boolean)) rm_X5_add (va_Pc [.ref (ad 44), .int (iI a0), .int (iI a1), .int (iI a2)] (Wd ad D cI cZ cG σ)) (QI ad D cI cZ cG Post) 0 0 (Aw ad) := by
  refine met_V (own := RX5) hI (by decide +kernel) rfl (Nat.le_of_ble_eq_true rfl) ?_
  intro p e s m args below meth c C
  unfold vc_X5_add at h
  show V p l e rm_X5_add s m args below meth c ad D cI cZ cG (Aw ad) 4 0 0 (MQ below (QI ad D cI cZ cG Post) args s 0 0 (Aw ad)) σ 0 [(0, .ref (ad 44)), (1, .int (iI a0)), (2, .int (iI a1)), (3, .int (iI a2))] []
  refine x_aload_n (q := 1) (i := 0) C dX5_add_0 rfl 0 rfl rfl ?_
  refine x_getI (q := 4) C (Nat.le_of_ble_eq_true rfl) ly_44 fk_RX5_22 rfl dX5_add_1 rfl ?_
  refine x_bipush (q := 6) (z := 6) C dX5_add_4 rfl rfl ?_
  obtain ⟨o1, h⟩ := h
  refine x_icmp_lt (q := 9) (tgt := 11) C dX5_add_6 rfl ⟨o1, by decide⟩ rfl (fun c2 => ?_) (fun c2 => ?_)
  · have h := h.1 c2
    refine x_aload_n (q := 12) (i := 0) C dX5_add_11 rfl 0 rfl rfl ?_
    refine x_getR (q := 15) (c0 := 45) C (Nat.le_of_ble_eq_true rfl) ly_44 fk_RX5_9 rfl dX5_add_12 rfl ?_
    refine x_aload_n (q := 16) (i := 0) C dX5_add_15 rfl 0 rfl rfl ?_
    refine x_getI (q := 19) C (Nat.le_of_ble_eq_true rfl) ly_44 fk_RX5_22 rfl dX5_add_16 rfl ?_
    refine x_iload_n (q := 20) (i := 1) C dX5_add_19 rfl 1 rfl rfl ?_
    obtain ⟨o3, h⟩ := h
    refine x_iast (q := 21) C (Nat.le_of_ble_eq_true rfl) ly_45 dX5_add_20 (ix o3 rfl) (Nat.le_of_ble_eq_true rfl)  rfl ?_
    refine x_aload_n (q := 22) (i := 0) C dX5_add_21 rfl 0 rfl rfl ?_
    refine x_getR (q := 25) (c0 := 46) C (Nat.le_of_ble_eq_true rfl) ly_44 fk_RX5_15 rfl dX5_add_22 rfl ?_
    refine x_aload_n (q := 26) (i := 0) C dX5_add_25 rfl 0 rfl rfl ?_
    refine x_getI (q := 29) C (Nat.le_of_ble_eq_true rfl) ly_44 fk_RX5_22 rfl dX5_add_26 rfl ?_
    refine x_iload_n (q := 30) (i := 2) C dX5_add_29 rfl 2 rfl rfl ?_
    obtain ⟨o4, h⟩ := h
    refine x_iast (q := 31) C (Nat.le_of_ble_eq_true rfl) ly_46 dX5_add_30 (ix o4 rfl) (Nat.le_of_ble_eq_true rfl)  rfl ?_
    refine x_aload_n (q := 32) (i := 0) C dX5_add_31 rfl 0 rfl rfl ?_
    refine x_getR (q := 35) (c0 := 47) C (Nat.le_of_ble_eq_true rfl) ly_44 fk_RX5_18 rfl dX5_add_32 rfl ?_
    refine x_aload_n (q := 36) (i := 0) C dX5_add_35 rfl 0 rfl rfl ?_
    refine x_getI (q := 39) C (Nat.le_of_ble_eq_true rfl) ly_44 fk_RX5_22 rfl dX5_add_36 rfl ?_
    refine x_iload_n (q := 40) (i := 3) C dX5_add_39 rfl 3 rfl rfl ?_
    obtain ⟨o5, h⟩ := h
    obtain ⟨o6, h⟩ := h
    refine x_bast (q := 41) C (Nat.le_of_ble_eq_true rfl) ly_47 dX5_add_40 (ix o5 rfl) (Nat.le_of_ble_eq_true rfl) o6 rfl ?_
    refine x_aload_n (q := 42) (i := 0) C dX5_add_41 rfl 0 rfl rfl ?_
    refine x_dup (q := 43) C dX5_add_42 rfl rfl ?_
    refine x_getI (q := 46) C (Nat.le_of_ble_eq_true rfl) ly_44 fk_RX5_22 rfl dX5_add_43 rfl ?_
    refine x_iconst (q := 47) (z := 1) C dX5_add_46 rfl rfl ?_
    refine x_iadd (q := 48) C dX5_add_47  rfl ?_
    refine x_putI (q := 51) C (Nat.le_of_ble_eq_true rfl) ly_44 fk_RX5_22 rfl tyX5 tyX5_ok nmX5 rfl (tyX5_ok 3 (Nat.le_of_ble_eq_true rfl)) dX5_add_48 rfl ?_
    refine x_iconst (q := 52) (z := 1) C dX5_add_51 rfl rfl ?_
    exact x_zret C dX5_add_52 (by decide) h
  · have h := h.2 c2
    refine x_iconst (q := 10) (z := 0) C dX5_add_9 rfl rfl ?_
    exact x_zret C dX5_add_10 (by decide) h
abbrev rm_X6_markAt : Room := { frames := 0, cells := 0, slots := 0, locals := 0 }
def vc_X6_markAt (σ : GS) (a0 : Int) (Post : Int → Prop) : Prop :=
  (rg a0) ∧
  ((a0 < 0 →
    (Post (-9))) ∧
  (¬ a0 < 0 →
    (((28 : Int) ≤ a0 →
      (Post (-9))) ∧
    (¬ (28 : Int) ≤ a0 →
      ((0 ≤ (σ 10 4) ∧ (σ 10 4) < 7) ∧
      ((0 ≤ a0 ∧ a0 < 28) ∧
      (Post (σ (12 + (σ 10 4).toNat) a0.toNat))))))))
set_option maxHeartbeats 4000000 in
set_option maxRecDepth 10000 in
theorem m_X6_markAt (l : Launch) {ad : Nat → Nat} {D : va_G} {cI cZ cG : ClassId} (hI : Ij ad) {σ : GS} {a0 : Int} {Post : Int → Prop} (h : vc_X6_markAt σ a0 Post) : Met l yX6_markAt (wX yX6_markAt cX6_markAt 2 (some .int)) rm_X6_markAt (va_Pc [.ref (ad 10), .int (iI a0)] (Wd ad D cI cZ cG σ)) (QI ad D cI cZ cG (fun z u => u = σ ∧ Post z)) 0 0 (Aw ad) := by
  refine met_V (own := RX6) hI (by decide +kernel) rfl (Nat.le_of_ble_eq_true rfl) ?_
  intro p e s m args below meth c C
  unfold vc_X6_markAt at h
  show V p l e rm_X6_markAt s m args below meth c ad D cI cZ cG (Aw ad) 2 0 0 (MQ below (QI ad D cI cZ cG (fun z u => u = σ ∧ Post z)) args s 0 0 (Aw ad)) σ 0 [(0, .ref (ad 10)), (1, .int (iI a0))] []
  refine x_iload_n (q := 1) (i := 1) C dX6_markAt_0 rfl 1 rfl rfl ?_
  obtain ⟨o1, h⟩ := h
  refine x_if_lt (q := 4) (tgt := 24) C dX6_markAt_1 rfl o1 rfl (fun c2 => ?_) (fun c2 => ?_)
  · have h := h.1 c2
    refine x_bipush (q := 26) (z := (-9)) C dX6_markAt_24 rfl rfl ?_
    exact x_iret C dX6_markAt_26 ⟨rfl, h⟩
  · have h := h.2 c2
    refine x_iload_n (q := 5) (i := 1) C dX6_markAt_4 rfl 1 rfl rfl ?_
    refine x_bipush (q := 7) (z := 28) C dX6_markAt_5 rfl rfl ?_
    refine x_icmp_ge (q := 10) (tgt := 24) C dX6_markAt_7 rfl ⟨o1, by decide⟩ rfl (fun c3 => ?_) (fun c3 => ?_)
    · have h := h.1 c3
      refine x_bipush (q := 26) (z := (-9)) C dX6_markAt_24 rfl rfl ?_
      exact x_iret C dX6_markAt_26 ⟨rfl, h⟩
    · have h := h.2 c3
      refine x_aload_n (q := 11) (i := 0) C dX6_markAt_10 rfl 0 rfl rfl ?_
      refine x_getR (q := 14) (c0 := 11) C (Nat.le_of_ble_eq_true rfl) ly_10 fk_RX6_11 rfl dX6_markAt_11 rfl ?_
      refine x_aload_n (q := 15) (i := 0) C dX6_markAt_14 rfl 0 rfl rfl ?_
      refine x_getI (q := 18) C (Nat.le_of_ble_eq_true rfl) ly_10 fk_RX6_44 rfl dX6_markAt_15 rfl ?_
      obtain ⟨o4, h⟩ := h
      have r5 := ra_11 (ix o4 rfl)
      refine x_aald (q := 19) C (Nat.le_of_ble_eq_true rfl) ly_11 dX6_markAt_18 (ix o4 rfl) (Nat.le_of_ble_eq_true rfl) rfl ?_
      refine x_iload_n (q := 20) (i := 1) C dX6_markAt_19 rfl 1 rfl rfl ?_
      obtain ⟨o6, h⟩ := h
      refine x_iald (q := 21) C r5.2 r5.1 dX6_markAt_20 (ix o6 rfl) (Nat.le_of_ble_eq_true rfl) rfl ?_
      refine x_goto (tgt := 26) C dX6_markAt_21 rfl ?_
      exact x_iret C dX6_markAt_26 ⟨rfl, h⟩
