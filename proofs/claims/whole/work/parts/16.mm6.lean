abbrev rm_X10_open : Room := { frames := 6, cells := 0, slots := 0, locals := 152 }
def vc_X10_open (σ : GS) (a0 : Int) (a1 : Int) (Post : Int → GS → Prop) : Prop :=
  (rg a0) ∧
  (vc_X10_in σ a0 0 1 (fun (z2 : Int) =>
    (rg z2) ∧
  ((z2 = 0 →
    (Post (-2) σ)) ∧
  (¬ z2 = 0 →
    ((rg a1) ∧
    (vc_X10_in σ a1 0 1 (fun (z6 : Int) =>
      (rg z6) ∧
    ((¬ z6 = 0 →
      (∃ I9 : Nat → Int → Int → Int → GS → Prop, (∃ n : Nat, I9 n (-9) (-9) 0 σ) ∧ ∀ (n9 : Nat) (v3_9 : Int) (v4_9 : Int) (v5_9 : Int) (σ9 : GS), I9 n9 v3_9 v4_9 v5_9 σ9 →
      (vc_X10_waysMany σ9  (fun (z10 : Int) =>
            (rg v5_9) ∧
          ((rg z10) ∧
          ((z10 ≤ v5_9 →
            ((¬ a1 = 0 →
              (Post v4_9 σ9)) ∧
            (a1 = 0 →
              (Post v3_9 σ9)))) ∧
          (¬ z10 ≤ v5_9 →
            (vc_X10_layWay σ9 v5_9 (fun (z15 : Int) (σ15 : GS) =>
              vc_X10_farOf σ15  (fun (z16 : Int) =>
              (rg z15) ∧
            ((z15 = 0 →
              (∃ n' : Nat, n' < n9 ∧ I9 n' v3_9 v4_9 (v5_9 + 1) σ15)) ∧
            (¬ z15 = 0 →
              ((rg v3_9) ∧
              ((v3_9 = (-9) →
                (vc_X10_readsOn σ15 1 63 a0 (fun (z23 : Int) =>
                  (rg z23) ∧
                ((z23 = (-9) →
                  (∃ n' : Nat, n' < n9 ∧ I9 n' v3_9 v4_9 (v5_9 + 1) σ15)) ∧
                (¬ z23 = (-9) →
                  (vc_X10_figuresOf σ15 1 (fun (z28 : Int) =>
                    ∃ n' : Nat, n' < n9 ∧ I9 n' z16 z28 (v5_9 + 1) σ15))))))) ∧
              (¬ v3_9 = (-9) →
                ((rg z16) ∧
                ((v3_9 ≤ z16 →
                  (∃ n' : Nat, n' < n9 ∧ I9 n' v3_9 v4_9 (v5_9 + 1) σ15)) ∧
                (¬ v3_9 ≤ z16 →
                  (vc_X10_readsOn σ15 1 63 a0 (fun (z35 : Int) =>
                    (rg z35) ∧
                  ((z35 = (-9) →
                    (∃ n' : Nat, n' < n9 ∧ I9 n' v3_9 v4_9 (v5_9 + 1) σ15)) ∧
                  (¬ z35 = (-9) →
                    (vc_X10_figuresOf σ15 1 (fun (z40 : Int) =>
                      ∃ n' : Nat, n' < n9 ∧ I9 n' z16 z40 (v5_9 + 1) σ15)))))))))))))))))))))))) ∧
    (z6 = 0 →
      (Post (-2) σ))))))))))
set_option maxHeartbeats 4000000 in
set_option maxRecDepth 10000 in
theorem m_X10_open (l : Launch) {ad : Nat → Nat} {D : va_G} {cI cZ cG : ClassId} (hI : Ij ad) {σ : GS} {a0 : Int} {a1 : Int} {Post : Int → GS → Prop} (h : vc_X10_open σ a0 a1 Post) : Met l yX10_open (wX yX10_open cX10_open 8 (some .int)) rm_X10_open (va_Pc [.ref (ad 51), .int (iI a0), .int (iI a1)] (Wd ad D cI cZ cG σ)) (QI ad D cI cZ cG Post) 0 0 (Aw ad) := by
  refine met_V (own := RX10) hI (by decide +kernel) rfl (Nat.le_of_ble_eq_true rfl) ?_
  intro p e s m args below meth c C
  unfold vc_X10_open at h
  show V p l e rm_X10_open s m args below meth c ad D cI cZ cG (Aw ad) 8 0 0 (MQ below (QI ad D cI cZ cG Post) args s 0 0 (Aw ad)) σ 0 [(0, .ref (ad 51)), (1, .int (iI a0)), (2, .int (iI a1))] []
  refine x_iload_n (q := 1) (i := 1) C dX10_open_0 rfl 1 rfl rfl ?_
  obtain ⟨o1, h⟩ := h
  refine x_i2l (q := 2) C dX10_open_1 o1 rfl ?_
  refine x_lconst (q := 3) (z := 0) C dX10_open_2 rfl rfl ?_
  refine x_lconst (q := 4) (z := 1) C dX10_open_3 rfl rfl ?_
  refine x_staI (q := 7) C ck_RX10_52 t4_33 (m_X10_in l hI h) ⟨⟨rfl, rfl⟩, ⟨Nat.le_of_ble_eq_true rfl, Nat.le_of_ble_eq_true rfl⟩, ⟨Nat.zero_le _, Nat.zero_le _⟩⟩ dX10_open_4 rfl rfl (Nat.le_of_ble_eq_true rfl) rfl (fun z2 σ2 h => ?_)
  rw [h.1]
  have h := h.2
  obtain ⟨o3, h⟩ := h
  refine x_if_eq (q := 10) (tgt := 20) C dX10_open_7 rfl o3 rfl (fun c4 => ?_) (fun c4 => ?_)
  · have h := h.1 c4
    refine x_bipush (q := 22) (z := (-2)) C dX10_open_20 rfl rfl ?_
    exact x_iret C dX10_open_22 h
  · have h := h.2 c4
    refine x_iload_n (q := 11) (i := 2) C dX10_open_10 rfl 2 rfl rfl ?_
    obtain ⟨o5, h⟩ := h
    refine x_i2l (q := 12) C dX10_open_11 o5 rfl ?_
    refine x_lconst (q := 13) (z := 0) C dX10_open_12 rfl rfl ?_
    refine x_lconst (q := 14) (z := 1) C dX10_open_13 rfl rfl ?_
    refine x_staI (q := 17) C ck_RX10_52 t4_33 (m_X10_in l hI h) ⟨⟨rfl, rfl⟩, ⟨Nat.le_of_ble_eq_true rfl, Nat.le_of_ble_eq_true rfl⟩, ⟨Nat.zero_le _, Nat.zero_le _⟩⟩ dX10_open_14 rfl rfl (Nat.le_of_ble_eq_true rfl) rfl (fun z6 σ6 h => ?_)
    rw [h.1]
    have h := h.2
    obtain ⟨o7, h⟩ := h
    refine x_if_ne (q := 20) (tgt := 23) C dX10_open_17 rfl o7 rfl (fun c8 => ?_) (fun c8 => ?_)
    · have h := h.1 c8
      refine x_bipush (q := 25) (z := (-9)) C dX10_open_23 rfl rfl ?_
      refine x_istore_n (q := 26) (i := 3) (lv' := [(0, .ref (ad 51)), (1, .int (iI a0)), (2, .int (iI a1)), (3, .int (iI (-9)))]) C dX10_open_25 rfl (Nat.le_of_ble_eq_true rfl) [1, 2, 3, 0] rfl rfl ?_
      refine x_bipush (q := 28) (z := (-9)) C dX10_open_26 rfl rfl ?_
      refine x_istore (q := 30) (i := 4) (lv' := [(0, .ref (ad 51)), (1, .int (iI a0)), (2, .int (iI a1)), (3, .int (iI (-9))), (4, .int (iI (-9)))]) C dX10_open_28 (Nat.le_of_ble_eq_true rfl) [1, 2, 3, 4, 0] rfl rfl ?_
      refine x_iconst (q := 31) (z := 0) C dX10_open_30 rfl rfl ?_
      refine x_istore (q := 33) (i := 5) (lv' := [(0, .ref (ad 51)), (1, .int (iI a0)), (2, .int (iI a1)), (3, .int (iI (-9))), (4, .int (iI (-9))), (5, .int (iI 0))]) C dX10_open_31 (Nat.le_of_ble_eq_true rfl) [1, 2, 3, 4, 5, 0] rfl rfl ?_
      obtain ⟨I9, ⟨n09, h09⟩, hs9⟩ := h
      have L9 : ∀ (n9 : Nat) (v3_9 : Int) (v4_9 : Int) (v5_9 : Int) (σ9 : GS), I9 n9 v3_9 v4_9 v5_9 σ9 → V p l e rm_X10_open s m args below meth c ad D cI cZ cG (Aw ad) 8 0 0 (MQ below (QI ad D cI cZ cG Post) args s 0 0 (Aw ad)) σ9 33 [(0, .ref (ad 51)), (1, .int (iI a0)), (2, .int (iI a1)), (3, .int (iI v3_9)), (4, .int (iI v4_9)), (5, .int (iI v5_9))] [] := by
        intro n9
        induction n9 using Nat.strongRecOn with
        | ind n9 ih9 =>
          intro v3_9 v4_9 v5_9 σ9 h
          have h := hs9 n9 v3_9 v4_9 v5_9 σ9 h
          refine x_iload (q := 35) C dX10_open_33 5 rfl rfl ?_
          refine x_aload_n (q := 36) (i := 0) C dX10_open_35 rfl 0 rfl rfl ?_
          refine x_virI (q := 39) C (Nat.le_of_ble_eq_true rfl) ly_51 rfl ck_RX10_164 vk_X10_waysMany (m_X10_waysMany l hI h) ⟨⟨rfl, rfl⟩, ⟨Nat.le_of_ble_eq_true rfl, Nat.le_of_ble_eq_true rfl⟩, ⟨Nat.zero_le _, Nat.zero_le _⟩⟩ dX10_open_36 rfl rfl (Nat.le_of_ble_eq_true rfl) rfl (fun z10 σ10 h => ?_)
          rw [h.1]
          have h := h.2
          obtain ⟨o11, h⟩ := h
          obtain ⟨o12, h⟩ := h
          refine x_icmp_ge (q := 42) (tgt := 102) C dX10_open_39 rfl ⟨o11, o12⟩ rfl (fun c13 => ?_) (fun c13 => ?_)
          · have h := h.1 c13
            refine x_iload_n (q := 103) (i := 2) C dX10_open_102 rfl 2 rfl rfl ?_
            refine x_if_ne (q := 106) (tgt := 110) C dX10_open_103 rfl o5 rfl (fun c14 => ?_) (fun c14 => ?_)
            · have h := h.1 c14
              refine x_iload (q := 112) C dX10_open_110 4 rfl rfl ?_
              exact x_iret C dX10_open_112 h
            · have h := h.2 c14
              refine x_iload_n (q := 107) (i := 3) C dX10_open_106 rfl 3 rfl rfl ?_
              refine x_goto (tgt := 112) C dX10_open_107 rfl ?_
              exact x_iret C dX10_open_112 h
          · have h := h.2 c13
            refine x_aload_n (q := 43) (i := 0) C dX10_open_42 rfl 0 rfl rfl ?_
            refine x_iload (q := 45) C dX10_open_43 5 rfl rfl ?_
            refine x_virI (q := 48) C (Nat.le_of_ble_eq_true rfl) ly_51 rfl ck_RX10_167 vk_X10_layWay (m_X10_layWay l hI h) ⟨⟨rfl, rfl⟩, ⟨Nat.le_of_ble_eq_true rfl, Nat.le_of_ble_eq_true rfl⟩, ⟨Nat.zero_le _, Nat.zero_le _⟩⟩ dX10_open_45 rfl rfl (Nat.le_of_ble_eq_true rfl) rfl (fun z15 σ15 h => ?_)
            refine x_istore (q := 50) (i := 6) (lv' := [(0, .ref (ad 51)), (1, .int (iI a0)), (2, .int (iI a1)), (3, .int (iI v3_9)), (4, .int (iI v4_9)), (5, .int (iI v5_9)), (6, .int (iI z15))]) C dX10_open_48 (Nat.le_of_ble_eq_true rfl) [1, 2, 3, 4, 5, 6, 0] rfl rfl ?_
            refine x_aload_n (q := 51) (i := 0) C dX10_open_50 rfl 0 rfl rfl ?_
            refine x_virI (q := 54) C (Nat.le_of_ble_eq_true rfl) ly_51 rfl ck_RX10_170 vk_X10_farOf (m_X10_farOf l hI h) ⟨⟨rfl, rfl⟩, ⟨Nat.le_of_ble_eq_true rfl, Nat.le_of_ble_eq_true rfl⟩, ⟨Nat.zero_le _, Nat.zero_le _⟩⟩ dX10_open_51 rfl rfl (Nat.le_of_ble_eq_true rfl) rfl (fun z16 σ16 h => ?_)
            rw [h.1]
            have h := h.2
            refine x_istore (q := 56) (i := 7) (lv' := [(0, .ref (ad 51)), (1, .int (iI a0)), (2, .int (iI a1)), (3, .int (iI v3_9)), (4, .int (iI v4_9)), (5, .int (iI v5_9)), (6, .int (iI z15)), (7, .int (iI z16))]) C dX10_open_54 (Nat.le_of_ble_eq_true rfl) [1, 2, 3, 4, 5, 6, 7, 0] rfl rfl ?_
            refine x_iload (q := 58) C dX10_open_56 6 rfl rfl ?_
            obtain ⟨o17, h⟩ := h
            refine x_if_eq (q := 61) (tgt := 96) C dX10_open_58 rfl o17 rfl (fun c18 => ?_) (fun c18 => ?_)
            · have h := h.1 c18
              refine x_iinc (q := 99) (z' := v5_9 + 1) (lv' := [(0, .ref (ad 51)), (1, .int (iI a0)), (2, .int (iI a1)), (3, .int (iI v3_9)), (4, .int (iI v4_9)), (5, .int (iI (v5_9 + 1))), (6, .int (iI z15)), (7, .int (iI z16))]) C dX10_open_96 5 rfl rfl (Nat.le_of_ble_eq_true rfl) [1, 2, 3, 4, 5, 0, 6, 7] rfl rfl ?_
              refine x_goto (tgt := 33) C dX10_open_99 rfl ?_
              obtain ⟨n19, hl20, h⟩ := h
              refine x_sub [0, 1, 2, 3, 4, 5] rfl ?_
              exact ih9 n19 hl20 _ _ _ _ h
            · have h := h.2 c18
              refine x_iload_n (q := 62) (i := 3) C dX10_open_61 rfl 3 rfl rfl ?_
              refine x_bipush (q := 64) (z := (-9)) C dX10_open_62 rfl rfl ?_
              obtain ⟨o21, h⟩ := h
              refine x_icmp_eq (q := 67) (tgt := 73) C dX10_open_64 rfl ⟨o21, by decide⟩ rfl (fun c22 => ?_) (fun c22 => ?_)
              · have h := h.1 c22
                refine x_aload_n (q := 74) (i := 0) C dX10_open_73 rfl 0 rfl rfl ?_
                refine x_iconst (q := 75) (z := 1) C dX10_open_74 rfl rfl ?_
                refine x_bipush (q := 77) (z := 63) C dX10_open_75 rfl rfl ?_
                refine x_iload_n (q := 78) (i := 1) C dX10_open_77 rfl 1 rfl rfl ?_
                refine x_virI (q := 81) C (Nat.le_of_ble_eq_true rfl) ly_51 rfl ck_RX10_161 vk_X10_readsOn (m_X10_readsOn l hI h) ⟨⟨rfl, rfl⟩, ⟨Nat.le_of_ble_eq_true rfl, Nat.le_of_ble_eq_true rfl⟩, ⟨Nat.zero_le _, Nat.zero_le _⟩⟩ dX10_open_78 rfl rfl (Nat.le_of_ble_eq_true rfl) rfl (fun z23 σ23 h => ?_)
                rw [h.1]
                have h := h.2
                refine x_bipush (q := 83) (z := (-9)) C dX10_open_81 rfl rfl ?_
                obtain ⟨o24, h⟩ := h
                refine x_icmp_eq (q := 86) (tgt := 96) C dX10_open_83 rfl ⟨o24, by decide⟩ rfl (fun c25 => ?_) (fun c25 => ?_)
                · have h := h.1 c25
                  refine x_iinc (q := 99) (z' := v5_9 + 1) (lv' := [(0, .ref (ad 51)), (1, .int (iI a0)), (2, .int (iI a1)), (3, .int (iI v3_9)), (4, .int (iI v4_9)), (5, .int (iI (v5_9 + 1))), (6, .int (iI z15)), (7, .int (iI z16))]) C dX10_open_96 5 rfl rfl (Nat.le_of_ble_eq_true rfl) [1, 2, 3, 4, 5, 0, 6, 7] rfl rfl ?_
                  refine x_goto (tgt := 33) C dX10_open_99 rfl ?_
                  obtain ⟨n26, hl27, h⟩ := h
                  refine x_sub [0, 1, 2, 3, 4, 5] rfl ?_
                  exact ih9 n26 hl27 _ _ _ _ h
                · have h := h.2 c25
                  refine x_iload (q := 88) C dX10_open_86 7 rfl rfl ?_
                  refine x_istore_n (q := 89) (i := 3) (lv' := [(0, .ref (ad 51)), (1, .int (iI a0)), (2, .int (iI a1)), (3, .int (iI z16)), (4, .int (iI v4_9)), (5, .int (iI v5_9)), (6, .int (iI z15)), (7, .int (iI z16))]) C dX10_open_88 rfl (Nat.le_of_ble_eq_true rfl) [1, 2, 3, 0, 4, 5, 6, 7] rfl rfl ?_
                  refine x_aload_n (q := 90) (i := 0) C dX10_open_89 rfl 0 rfl rfl ?_
                  refine x_iconst (q := 91) (z := 1) C dX10_open_90 rfl rfl ?_
                  refine x_virI (q := 94) C (Nat.le_of_ble_eq_true rfl) ly_51 rfl ck_RX10_173 vk_X10_figuresOf (m_X10_figuresOf l hI h) ⟨⟨rfl, rfl⟩, ⟨Nat.le_of_ble_eq_true rfl, Nat.le_of_ble_eq_true rfl⟩, ⟨Nat.zero_le _, Nat.zero_le _⟩⟩ dX10_open_91 rfl rfl (Nat.le_of_ble_eq_true rfl) rfl (fun z28 σ28 h => ?_)
                  rw [h.1]
                  have h := h.2
                  refine x_istore (q := 96) (i := 4) (lv' := [(0, .ref (ad 51)), (1, .int (iI a0)), (2, .int (iI a1)), (3, .int (iI z16)), (4, .int (iI z28)), (5, .int (iI v5_9)), (6, .int (iI z15)), (7, .int (iI z16))]) C dX10_open_94 (Nat.le_of_ble_eq_true rfl) [1, 2, 3, 4, 0, 5, 6, 7] rfl rfl ?_
                  refine x_iinc (q := 99) (z' := v5_9 + 1) (lv' := [(0, .ref (ad 51)), (1, .int (iI a0)), (2, .int (iI a1)), (3, .int (iI z16)), (4, .int (iI z28)), (5, .int (iI (v5_9 + 1))), (6, .int (iI z15)), (7, .int (iI z16))]) C dX10_open_96 5 rfl rfl (Nat.le_of_ble_eq_true rfl) [1, 2, 3, 4, 5, 0, 6, 7] rfl rfl ?_
                  refine x_goto (tgt := 33) C dX10_open_99 rfl ?_
                  obtain ⟨n29, hl30, h⟩ := h
                  refine x_sub [0, 1, 2, 3, 4, 5] rfl ?_
                  exact ih9 n29 hl30 _ _ _ _ h
              · have h := h.2 c22
                refine x_iload (q := 69) C dX10_open_67 7 rfl rfl ?_
                refine x_iload_n (q := 70) (i := 3) C dX10_open_69 rfl 3 rfl rfl ?_
                obtain ⟨o31, h⟩ := h
                refine x_icmp_ge (q := 73) (tgt := 96) C dX10_open_70 rfl ⟨o31, o21⟩ rfl (fun c32 => ?_) (fun c32 => ?_)
                · have h := h.1 c32
                  refine x_iinc (q := 99) (z' := v5_9 + 1) (lv' := [(0, .ref (ad 51)), (1, .int (iI a0)), (2, .int (iI a1)), (3, .int (iI v3_9)), (4, .int (iI v4_9)), (5, .int (iI (v5_9 + 1))), (6, .int (iI z15)), (7, .int (iI z16))]) C dX10_open_96 5 rfl rfl (Nat.le_of_ble_eq_true rfl) [1, 2, 3, 4, 5, 0, 6, 7] rfl rfl ?_
                  refine x_goto (tgt := 33) C dX10_open_99 rfl ?_
                  obtain ⟨n33, hl34, h⟩ := h
                  refine x_sub [0, 1, 2, 3, 4, 5] rfl ?_
                  exact ih9 n33 hl34 _ _ _ _ h
                · have h := h.2 c32
                  refine x_aload_n (q := 74) (i := 0) C dX10_open_73 rfl 0 rfl rfl ?_
                  refine x_iconst (q := 75) (z := 1) C dX10_open_74 rfl rfl ?_
                  refine x_bipush (q := 77) (z := 63) C dX10_open_75 rfl rfl ?_
                  refine x_iload_n (q := 78) (i := 1) C dX10_open_77 rfl 1 rfl rfl ?_
                  refine x_virI (q := 81) C (Nat.le_of_ble_eq_true rfl) ly_51 rfl ck_RX10_161 vk_X10_readsOn (m_X10_readsOn l hI h) ⟨⟨rfl, rfl⟩, ⟨Nat.le_of_ble_eq_true rfl, Nat.le_of_ble_eq_true rfl⟩, ⟨Nat.zero_le _, Nat.zero_le _⟩⟩ dX10_open_78 rfl rfl (Nat.le_of_ble_eq_true rfl) rfl (fun z35 σ35 h => ?_)
                  rw [h.1]
                  have h := h.2
                  refine x_bipush (q := 83) (z := (-9)) C dX10_open_81 rfl rfl ?_
                  obtain ⟨o36, h⟩ := h
                  refine x_icmp_eq (q := 86) (tgt := 96) C dX10_open_83 rfl ⟨o36, by decide⟩ rfl (fun c37 => ?_) (fun c37 => ?_)
                  · have h := h.1 c37
                    refine x_iinc (q := 99) (z' := v5_9 + 1) (lv' := [(0, .ref (ad 51)), (1, .int (iI a0)), (2, .int (iI a1)), (3, .int (iI v3_9)), (4, .int (iI v4_9)), (5, .int (iI (v5_9 + 1))), (6, .int (iI z15)), (7, .int (iI z16))]) C dX10_open_96 5 rfl rfl (Nat.le_of_ble_eq_true rfl) [1, 2, 3, 4, 5, 0, 6, 7] rfl rfl ?_
                    refine x_goto (tgt := 33) C dX10_open_99 rfl ?_
                    obtain ⟨n38, hl39, h⟩ := h
                    refine x_sub [0, 1, 2, 3, 4, 5] rfl ?_
                    exact ih9 n38 hl39 _ _ _ _ h
                  · have h := h.2 c37
                    refine x_iload (q := 88) C dX10_open_86 7 rfl rfl ?_
                    refine x_istore_n (q := 89) (i := 3) (lv' := [(0, .ref (ad 51)), (1, .int (iI a0)), (2, .int (iI a1)), (3, .int (iI z16)), (4, .int (iI v4_9)), (5, .int (iI v5_9)), (6, .int (iI z15)), (7, .int (iI z16))]) C dX10_open_88 rfl (Nat.le_of_ble_eq_true rfl) [1, 2, 3, 0, 4, 5, 6, 7] rfl rfl ?_
                    refine x_aload_n (q := 90) (i := 0) C dX10_open_89 rfl 0 rfl rfl ?_
                    refine x_iconst (q := 91) (z := 1) C dX10_open_90 rfl rfl ?_
                    refine x_virI (q := 94) C (Nat.le_of_ble_eq_true rfl) ly_51 rfl ck_RX10_173 vk_X10_figuresOf (m_X10_figuresOf l hI h) ⟨⟨rfl, rfl⟩, ⟨Nat.le_of_ble_eq_true rfl, Nat.le_of_ble_eq_true rfl⟩, ⟨Nat.zero_le _, Nat.zero_le _⟩⟩ dX10_open_91 rfl rfl (Nat.le_of_ble_eq_true rfl) rfl (fun z40 σ40 h => ?_)
                    rw [h.1]
                    have h := h.2
                    refine x_istore (q := 96) (i := 4) (lv' := [(0, .ref (ad 51)), (1, .int (iI a0)), (2, .int (iI a1)), (3, .int (iI z16)), (4, .int (iI z40)), (5, .int (iI v5_9)), (6, .int (iI z15)), (7, .int (iI z16))]) C dX10_open_94 (Nat.le_of_ble_eq_true rfl) [1, 2, 3, 4, 0, 5, 6, 7] rfl rfl ?_
                    refine x_iinc (q := 99) (z' := v5_9 + 1) (lv' := [(0, .ref (ad 51)), (1, .int (iI a0)), (2, .int (iI a1)), (3, .int (iI z16)), (4, .int (iI z40)), (5, .int (iI (v5_9 + 1))), (6, .int (iI z15)), (7, .int (iI z16))]) C dX10_open_96 5 rfl rfl (Nat.le_of_ble_eq_true rfl) [1, 2, 3, 4, 5, 0, 6, 7] rfl rfl ?_
                    refine x_goto (tgt := 33) C dX10_open_99 rfl ?_
                    obtain ⟨n41, hl42, h⟩ := h
                    refine x_sub [0, 1, 2, 3, 4, 5] rfl ?_
                    exact ih9 n41 hl42 _ _ _ _ h
      exact L9 n09 (-9) (-9) 0 σ h09
    · have h := h.2 c8
      refine x_bipush (q := 22) (z := (-2)) C dX10_open_20 rfl rfl ?_
      exact x_iret C dX10_open_22 h
abbrev rm_X10_timesSeen : Room := { frames := 4, cells := 0, slots := 0, locals := 101 }
def vc_X10_timesSeen (σ : GS) (a0 : Int) (Post : Int → Prop) : Prop :=
  ∃ I1 : Nat → Int → Int → Prop, (∃ n : Nat, I1 n 0 0) ∧ ∀ (n1 : Nat) (v2_1 : Int) (v3_1 : Int), I1 n1 v2_1 v3_1 →
  ((rg v3_1) ∧
      (((28 : Int) ≤ v3_1 →
        (Post v2_1)) ∧
      (¬ (28 : Int) ≤ v3_1 →
        (vc_X10_letterAt σ 1 63 v3_1 0 (fun (z4 : Int) =>
          (rg z4) ∧
        ((rg a0) ∧
        ((¬ z4 = a0 →
          (∃ n' : Nat, n' < n1 ∧ I1 n' (v2_1 + 0) (v3_1 + 1))) ∧
        (z4 = a0 →
          (∃ n' : Nat, n' < n1 ∧ I1 n' (v2_1 + 1) (v3_1 + 1))))))))))
set_option maxHeartbeats 4000000 in
set_option maxRecDepth 10000 in
theorem m_X10_timesSeen (l : Launch) {ad : Nat → Nat} {D : va_G} {cI cZ cG : ClassId} (hI : Ij ad) {σ : GS} {a0 : Int} {Post : Int → Prop} (h : vc_X10_timesSeen σ a0 Post) : Met l yX10_timesSeen (wX yX10_timesSeen cX10_timesSeen 4 (some .int)) rm_X10_timesSeen (va_Pc [.ref (ad 51), .int (iI a0)] (Wd ad D cI cZ cG σ)) (QI ad D cI cZ cG (fun z u => u = σ ∧ Post z)) 0 0 (Aw ad) := by
  refine met_V (own := RX10) hI (by decide +kernel) rfl (Nat.le_of_ble_eq_true rfl) ?_
  intro p e s m args below meth c C
  unfold vc_X10_timesSeen at h
  show V p l e rm_X10_timesSeen s m args below meth c ad D cI cZ cG (Aw ad) 4 0 0 (MQ below (QI ad D cI cZ cG (fun z u => u = σ ∧ Post z)) args s 0 0 (Aw ad)) σ 0 [(0, .ref (ad 51)), (1, .int (iI a0))] []
  refine x_iconst (q := 1) (z := 0) C dX10_timesSeen_0 rfl rfl ?_
  refine x_istore_n (q := 2) (i := 2) (lv' := [(0, .ref (ad 51)), (1, .int (iI a0)), (2, .int (iI 0))]) C dX10_timesSeen_1 rfl (Nat.le_of_ble_eq_true rfl) [1, 2, 0] rfl rfl ?_
  refine x_iconst (q := 3) (z := 0) C dX10_timesSeen_2 rfl rfl ?_
  refine x_istore_n (q := 4) (i := 3) (lv' := [(0, .ref (ad 51)), (1, .int (iI a0)), (2, .int (iI 0)), (3, .int (iI 0))]) C dX10_timesSeen_3 rfl (Nat.le_of_ble_eq_true rfl) [1, 2, 3, 0] rfl rfl ?_
  obtain ⟨I1, ⟨n01, h01⟩, hs1⟩ := h
  have L1 : ∀ (n1 : Nat) (v2_1 : Int) (v3_1 : Int), I1 n1 v2_1 v3_1 → V p l e rm_X10_timesSeen s m args below meth c ad D cI cZ cG (Aw ad) 4 0 0 (MQ below (QI ad D cI cZ cG (fun z u => u = σ ∧ Post z)) args s 0 0 (Aw ad)) σ 4 [(0, .ref (ad 51)), (1, .int (iI a0)), (2, .int (iI v2_1)), (3, .int (iI v3_1))] [] := by
    intro n1
    induction n1 using Nat.strongRecOn with
    | ind n1 ih1 =>
      intro v2_1 v3_1 h
      have h := hs1 n1 v2_1 v3_1 h
      refine x_iload_n (q := 5) (i := 3) C dX10_timesSeen_4 rfl 3 rfl rfl ?_
      refine x_bipush (q := 7) (z := 28) C dX10_timesSeen_5 rfl rfl ?_
      obtain ⟨o2, h⟩ := h
      refine x_icmp_ge (q := 10) (tgt := 37) C dX10_timesSeen_7 rfl ⟨o2, by decide⟩ rfl (fun c3 => ?_) (fun c3 => ?_)
      · have h := h.1 c3
        refine x_iload_n (q := 38) (i := 2) C dX10_timesSeen_37 rfl 2 rfl rfl ?_
        exact x_iret C dX10_timesSeen_38 ⟨rfl, h⟩
      · have h := h.2 c3
        refine x_iload_n (q := 11) (i := 2) C dX10_timesSeen_10 rfl 2 rfl rfl ?_
        refine x_aload_n (q := 12) (i := 0) C dX10_timesSeen_11 rfl 0 rfl rfl ?_
        refine x_iconst (q := 13) (z := 1) C dX10_timesSeen_12 rfl rfl ?_
        refine x_bipush (q := 15) (z := 63) C dX10_timesSeen_13 rfl rfl ?_
        refine x_iload_n (q := 16) (i := 3) C dX10_timesSeen_15 rfl 3 rfl rfl ?_
        refine x_iconst (q := 17) (z := 0) C dX10_timesSeen_16 rfl rfl ?_
        refine x_virI (q := 20) C (Nat.le_of_ble_eq_true rfl) ly_51 rfl ck_RX10_119 vk_X10_letterAt (m_X10_letterAt l hI h) ⟨⟨rfl, rfl⟩, ⟨Nat.le_of_ble_eq_true rfl, Nat.le_of_ble_eq_true rfl⟩, ⟨Nat.zero_le _, Nat.zero_le _⟩⟩ dX10_timesSeen_17 rfl rfl (Nat.le_of_ble_eq_true rfl) rfl (fun z4 σ4 h => ?_)
        rw [h.1]
        have h := h.2
        refine x_iload_n (q := 21) (i := 1) C dX10_timesSeen_20 rfl 1 rfl rfl ?_
        obtain ⟨o5, h⟩ := h
        obtain ⟨o6, h⟩ := h
        refine x_icmp_ne (q := 24) (tgt := 28) C dX10_timesSeen_21 rfl ⟨o5, o6⟩ rfl (fun c7 => ?_) (fun c7 => ?_)
        · have h := h.1 c7
          refine x_iconst (q := 29) (z := 0) C dX10_timesSeen_28 rfl rfl ?_
          refine x_iadd (q := 30) C dX10_timesSeen_29  rfl ?_
          refine x_istore_n (q := 31) (i := 2) (lv' := [(0, .ref (ad 51)), (1, .int (iI a0)), (2, .int (iI (v2_1 + 0))), (3, .int (iI v3_1))]) C dX10_timesSeen_30 rfl (Nat.le_of_ble_eq_true rfl) [1, 2, 0, 3] rfl rfl ?_
          refine x_iinc (q := 34) (z' := v3_1 + 1) (lv' := [(0, .ref (ad 51)), (1, .int (iI a0)), (2, .int (iI (v2_1 + 0))), (3, .int (iI (v3_1 + 1)))]) C dX10_timesSeen_31 3 rfl rfl (Nat.le_of_ble_eq_true rfl) [1, 2, 3, 0] rfl rfl ?_
          refine x_goto (tgt := 4) C dX10_timesSeen_34 rfl ?_
          obtain ⟨n8, hl9, h⟩ := h
          refine x_sub [0, 1, 2, 3] rfl ?_
          exact ih1 n8 hl9 _ _ h
        · have h := h.2 c7
          refine x_iconst (q := 25) (z := 1) C dX10_timesSeen_24 rfl rfl ?_
          refine x_goto (tgt := 29) C dX10_timesSeen_25 rfl ?_
          refine x_iadd (q := 30) C dX10_timesSeen_29  rfl ?_
          refine x_istore_n (q := 31) (i := 2) (lv' := [(0, .ref (ad 51)), (1, .int (iI a0)), (2, .int (iI (v2_1 + 1))), (3, .int (iI v3_1))]) C dX10_timesSeen_30 rfl (Nat.le_of_ble_eq_true rfl) [1, 2, 0, 3] rfl rfl ?_
          refine x_iinc (q := 34) (z' := v3_1 + 1) (lv' := [(0, .ref (ad 51)), (1, .int (iI a0)), (2, .int (iI (v2_1 + 1))), (3, .int (iI (v3_1 + 1)))]) C dX10_timesSeen_31 3 rfl rfl (Nat.le_of_ble_eq_true rfl) [1, 2, 3, 0] rfl rfl ?_
          refine x_goto (tgt := 4) C dX10_timesSeen_34 rfl ?_
          obtain ⟨n10, hl11, h⟩ := h
          refine x_sub [0, 1, 2, 3] rfl ?_
          exact ih1 n10 hl11 _ _ h
  exact L1 n01 0 0 h01
abbrev rm_X10_most : Room := { frames := 5, cells := 0, slots := 0, locals := 124 }
def vc_X10_most (σ : GS) (a0 : Int) (a1 : Int) (Post : Int → GS → Prop) : Prop :=
  (rg a0) ∧
  (vc_X10_in σ a0 97 122 (fun (z2 : Int) =>
    (rg z2) ∧
  ((z2 = 0 →
    (Post (-2) σ)) ∧
  (¬ z2 = 0 →
    ((rg a1) ∧
    (vc_X10_in σ a1 0 1 (fun (z6 : Int) =>
      (rg z6) ∧
    ((¬ z6 = 0 →
      (∃ I9 : Nat → Int → Int → Int → GS → Prop, (∃ n : Nat, I9 n (-9) 0 0 σ) ∧ ∀ (n9 : Nat) (v3_9 : Int) (v4_9 : Int) (v5_9 : Int) (σ9 : GS), I9 n9 v3_9 v4_9 v5_9 σ9 →
      (vc_X10_waysMany σ9  (fun (z10 : Int) =>
            (rg v5_9) ∧
          ((rg z10) ∧
          ((z10 ≤ v5_9 →
            ((¬ a1 = 0 →
              (Post v4_9 σ9)) ∧
            (a1 = 0 →
              (Post v3_9 σ9)))) ∧
          (¬ z10 ≤ v5_9 →
            (vc_X10_layWay σ9 v5_9 (fun (z15 : Int) (σ15 : GS) =>
              (rg z15) ∧
            ((z15 = 0 →
              ((rg v3_9) ∧
              (((-9 : Int) ≤ v3_9 →
                (((-9 : Int) ≤ v3_9 →
                  (∃ n' : Nat, n' < n9 ∧ I9 n' v3_9 v4_9 (v5_9 + 1) σ15)) ∧
                (¬ (-9 : Int) ≤ v3_9 →
                  (∃ n' : Nat, n' < n9 ∧ I9 n' (-9) v4_9 (v5_9 + 1) σ15)))) ∧
              (¬ (-9 : Int) ≤ v3_9 →
                (vc_X10_figuresOf σ15 1 (fun (z25 : Int) =>
                  ((-9 : Int) ≤ v3_9 →
                  (∃ n' : Nat, n' < n9 ∧ I9 n' v3_9 z25 (v5_9 + 1) σ15)) ∧
                (¬ (-9 : Int) ≤ v3_9 →
                  (∃ n' : Nat, n' < n9 ∧ I9 n' (-9) z25 (v5_9 + 1) σ15)))))))) ∧
            (¬ z15 = 0 →
              (vc_X10_timesSeen σ15 (a0 - 97) (fun (z31 : Int) =>
                (rg z31) ∧
              ((rg v3_9) ∧
              ((z31 ≤ v3_9 →
                ((z31 ≤ v3_9 →
                  (∃ n' : Nat, n' < n9 ∧ I9 n' v3_9 v4_9 (v5_9 + 1) σ15)) ∧
                (¬ z31 ≤ v3_9 →
                  (∃ n' : Nat, n' < n9 ∧ I9 n' z31 v4_9 (v5_9 + 1) σ15)))) ∧
              (¬ z31 ≤ v3_9 →
                (vc_X10_figuresOf σ15 1 (fun (z40 : Int) =>
                  (z31 ≤ v3_9 →
                  (∃ n' : Nat, n' < n9 ∧ I9 n' v3_9 z40 (v5_9 + 1) σ15)) ∧
                (¬ z31 ≤ v3_9 →
                  (∃ n' : Nat, n' < n9 ∧ I9 n' z31 z40 (v5_9 + 1) σ15)))))))))))))))))))) ∧
    (z6 = 0 →
      (Post (-2) σ))))))))))
set_option maxHeartbeats 4000000 in
set_option maxRecDepth 10000 in
theorem m_X10_most (l : Launch) {ad : Nat → Nat} {D : va_G} {cI cZ cG : ClassId} (hI : Ij ad) {σ : GS} {a0 : Int} {a1 : Int} {Post : Int → GS → Prop} (h : vc_X10_most σ a0 a1 Post) : Met l yX10_most (wX yX10_most cX10_most 7 (some .int)) rm_X10_most (va_Pc [.ref (ad 51), .int (iI a0), .int (iI a1)] (Wd ad D cI cZ cG σ)) (QI ad D cI cZ cG Post) 0 0 (Aw ad) := by
  refine met_V (own := RX10) hI (by decide +kernel) rfl (Nat.le_of_ble_eq_true rfl) ?_
  intro p e s m args below meth c C
  unfold vc_X10_most at h
  show V p l e rm_X10_most s m args below meth c ad D cI cZ cG (Aw ad) 7 0 0 (MQ below (QI ad D cI cZ cG Post) args s 0 0 (Aw ad)) σ 0 [(0, .ref (ad 51)), (1, .int (iI a0)), (2, .int (iI a1))] []
  refine x_iload_n (q := 1) (i := 1) C dX10_most_0 rfl 1 rfl rfl ?_
  obtain ⟨o1, h⟩ := h
  refine x_i2l (q := 2) C dX10_most_1 o1 rfl ?_
  refine x_ldc2 (q := 5) (z := 97) C dX10_most_2 t4_49 rfl rfl ?_
  refine x_ldc2 (q := 8) (z := 122) C dX10_most_5 t4_50 rfl rfl ?_
  refine x_staI (q := 11) C ck_RX10_52 t4_33 (m_X10_in l hI h) ⟨⟨rfl, rfl⟩, ⟨Nat.le_of_ble_eq_true rfl, Nat.le_of_ble_eq_true rfl⟩, ⟨Nat.zero_le _, Nat.zero_le _⟩⟩ dX10_most_8 rfl rfl (Nat.le_of_ble_eq_true rfl) rfl (fun z2 σ2 h => ?_)
  rw [h.1]
  have h := h.2
  obtain ⟨o3, h⟩ := h
  refine x_if_eq (q := 14) (tgt := 24) C dX10_most_11 rfl o3 rfl (fun c4 => ?_) (fun c4 => ?_)
  · have h := h.1 c4
    refine x_bipush (q := 26) (z := (-2)) C dX10_most_24 rfl rfl ?_
    exact x_iret C dX10_most_26 h
  · have h := h.2 c4
    refine x_iload_n (q := 15) (i := 2) C dX10_most_14 rfl 2 rfl rfl ?_
    obtain ⟨o5, h⟩ := h
    refine x_i2l (q := 16) C dX10_most_15 o5 rfl ?_
    refine x_lconst (q := 17) (z := 0) C dX10_most_16 rfl rfl ?_
    refine x_lconst (q := 18) (z := 1) C dX10_most_17 rfl rfl ?_
    refine x_staI (q := 21) C ck_RX10_52 t4_33 (m_X10_in l hI h) ⟨⟨rfl, rfl⟩, ⟨Nat.le_of_ble_eq_true rfl, Nat.le_of_ble_eq_true rfl⟩, ⟨Nat.zero_le _, Nat.zero_le _⟩⟩ dX10_most_18 rfl rfl (Nat.le_of_ble_eq_true rfl) rfl (fun z6 σ6 h => ?_)
    rw [h.1]
    have h := h.2
    obtain ⟨o7, h⟩ := h
    refine x_if_ne (q := 24) (tgt := 27) C dX10_most_21 rfl o7 rfl (fun c8 => ?_) (fun c8 => ?_)
    · have h := h.1 c8
      refine x_bipush (q := 29) (z := (-9)) C dX10_most_27 rfl rfl ?_
      refine x_istore_n (q := 30) (i := 3) (lv' := [(0, .ref (ad 51)), (1, .int (iI a0)), (2, .int (iI a1)), (3, .int (iI (-9)))]) C dX10_most_29 rfl (Nat.le_of_ble_eq_true rfl) [1, 2, 3, 0] rfl rfl ?_
      refine x_iconst (q := 31) (z := 0) C dX10_most_30 rfl rfl ?_
      refine x_istore (q := 33) (i := 4) (lv' := [(0, .ref (ad 51)), (1, .int (iI a0)), (2, .int (iI a1)), (3, .int (iI (-9))), (4, .int (iI 0))]) C dX10_most_31 (Nat.le_of_ble_eq_true rfl) [1, 2, 3, 4, 0] rfl rfl ?_
      refine x_iconst (q := 34) (z := 0) C dX10_most_33 rfl rfl ?_
      refine x_istore (q := 36) (i := 5) (lv' := [(0, .ref (ad 51)), (1, .int (iI a0)), (2, .int (iI a1)), (3, .int (iI (-9))), (4, .int (iI 0)), (5, .int (iI 0))]) C dX10_most_34 (Nat.le_of_ble_eq_true rfl) [1, 2, 3, 4, 5, 0] rfl rfl ?_
      obtain ⟨I9, ⟨n09, h09⟩, hs9⟩ := h
      have L9 : ∀ (n9 : Nat) (v3_9 : Int) (v4_9 : Int) (v5_9 : Int) (σ9 : GS), I9 n9 v3_9 v4_9 v5_9 σ9 → V p l e rm_X10_most s m args below meth c ad D cI cZ cG (Aw ad) 7 0 0 (MQ below (QI ad D cI cZ cG Post) args s 0 0 (Aw ad)) σ9 36 [(0, .ref (ad 51)), (1, .int (iI a0)), (2, .int (iI a1)), (3, .int (iI v3_9)), (4, .int (iI v4_9)), (5, .int (iI v5_9))] [] := by
        intro n9
        induction n9 using Nat.strongRecOn with
        | ind n9 ih9 =>
          intro v3_9 v4_9 v5_9 σ9 h
          have h := hs9 n9 v3_9 v4_9 v5_9 σ9 h
          refine x_iload (q := 38) C dX10_most_36 5 rfl rfl ?_
          refine x_aload_n (q := 39) (i := 0) C dX10_most_38 rfl 0 rfl rfl ?_
          refine x_virI (q := 42) C (Nat.le_of_ble_eq_true rfl) ly_51 rfl ck_RX10_164 vk_X10_waysMany (m_X10_waysMany l hI h) ⟨⟨rfl, rfl⟩, ⟨Nat.le_of_ble_eq_true rfl, Nat.le_of_ble_eq_true rfl⟩, ⟨Nat.zero_le _, Nat.zero_le _⟩⟩ dX10_most_39 rfl rfl (Nat.le_of_ble_eq_true rfl) rfl (fun z10 σ10 h => ?_)
          rw [h.1]
          have h := h.2
          obtain ⟨o11, h⟩ := h
          obtain ⟨o12, h⟩ := h
          refine x_icmp_ge (q := 45) (tgt := 106) C dX10_most_42 rfl ⟨o11, o12⟩ rfl (fun c13 => ?_) (fun c13 => ?_)
          · have h := h.1 c13
            refine x_iload_n (q := 107) (i := 2) C dX10_most_106 rfl 2 rfl rfl ?_
            refine x_if_ne (q := 110) (tgt := 114) C dX10_most_107 rfl o5 rfl (fun c14 => ?_) (fun c14 => ?_)
            · have h := h.1 c14
              refine x_iload (q := 116) C dX10_most_114 4 rfl rfl ?_
              exact x_iret C dX10_most_116 h
            · have h := h.2 c14
              refine x_iload_n (q := 111) (i := 3) C dX10_most_110 rfl 3 rfl rfl ?_
              refine x_goto (tgt := 116) C dX10_most_111 rfl ?_
              exact x_iret C dX10_most_116 h
          · have h := h.2 c13
            refine x_aload_n (q := 46) (i := 0) C dX10_most_45 rfl 0 rfl rfl ?_
            refine x_iload (q := 48) C dX10_most_46 5 rfl rfl ?_
            refine x_virI (q := 51) C (Nat.le_of_ble_eq_true rfl) ly_51 rfl ck_RX10_167 vk_X10_layWay (m_X10_layWay l hI h) ⟨⟨rfl, rfl⟩, ⟨Nat.le_of_ble_eq_true rfl, Nat.le_of_ble_eq_true rfl⟩, ⟨Nat.zero_le _, Nat.zero_le _⟩⟩ dX10_most_48 rfl rfl (Nat.le_of_ble_eq_true rfl) rfl (fun z15 σ15 h => ?_)
            obtain ⟨o16, h⟩ := h
            refine x_if_eq (q := 54) (tgt := 65) C dX10_most_51 rfl o16 rfl (fun c17 => ?_) (fun c17 => ?_)
            · have h := h.1 c17
              refine x_bipush (q := 67) (z := (-9)) C dX10_most_65 rfl rfl ?_
              refine x_istore (q := 69) (i := 6) (lv' := [(0, .ref (ad 51)), (1, .int (iI a0)), (2, .int (iI a1)), (3, .int (iI v3_9)), (4, .int (iI v4_9)), (5, .int (iI v5_9)), (6, .int (iI (-9)))]) C dX10_most_67 (Nat.le_of_ble_eq_true rfl) [1, 2, 3, 4, 5, 6, 0] rfl rfl ?_
              refine x_iload (q := 71) C dX10_most_69 6 rfl rfl ?_
              refine x_iload_n (q := 72) (i := 3) C dX10_most_71 rfl 3 rfl rfl ?_
              obtain ⟨o18, h⟩ := h
              refine x_icmp_le (q := 75) (tgt := 83) C dX10_most_72 rfl ⟨by decide, o18⟩ rfl (fun c19 => ?_) (fun c19 => ?_)
              · have h := h.1 c19
                refine x_iload (q := 85) C dX10_most_83 4 rfl rfl ?_
                refine x_istore (q := 87) (i := 4) (lv' := [(0, .ref (ad 51)), (1, .int (iI a0)), (2, .int (iI a1)), (3, .int (iI v3_9)), (4, .int (iI v4_9)), (5, .int (iI v5_9)), (6, .int (iI (-9)))]) C dX10_most_85 (Nat.le_of_ble_eq_true rfl) [1, 2, 3, 4, 0, 5, 6] rfl rfl ?_
                refine x_iload (q := 89) C dX10_most_87 6 rfl rfl ?_
                refine x_iload_n (q := 90) (i := 3) C dX10_most_89 rfl 3 rfl rfl ?_
                refine x_icmp_le (q := 93) (tgt := 98) C dX10_most_90 rfl ⟨by decide, o18⟩ rfl (fun c20 => ?_) (fun c20 => ?_)
                · have h := h.1 c20
                  refine x_iload_n (q := 99) (i := 3) C dX10_most_98 rfl 3 rfl rfl ?_
                  refine x_istore_n (q := 100) (i := 3) (lv' := [(0, .ref (ad 51)), (1, .int (iI a0)), (2, .int (iI a1)), (3, .int (iI v3_9)), (4, .int (iI v4_9)), (5, .int (iI v5_9)), (6, .int (iI (-9)))]) C dX10_most_99 rfl (Nat.le_of_ble_eq_true rfl) [1, 2, 3, 0, 4, 5, 6] rfl rfl ?_
                  refine x_iinc (q := 103) (z' := v5_9 + 1) (lv' := [(0, .ref (ad 51)), (1, .int (iI a0)), (2, .int (iI a1)), (3, .int (iI v3_9)), (4, .int (iI v4_9)), (5, .int (iI (v5_9 + 1))), (6, .int (iI (-9)))]) C dX10_most_100 5 rfl rfl (Nat.le_of_ble_eq_true rfl) [1, 2, 3, 4, 5, 0, 6] rfl rfl ?_
                  refine x_goto (tgt := 36) C dX10_most_103 rfl ?_
                  obtain ⟨n21, hl22, h⟩ := h
                  refine x_sub [0, 1, 2, 3, 4, 5] rfl ?_
                  exact ih9 n21 hl22 _ _ _ _ h
                · have h := h.2 c20
                  refine x_iload (q := 95) C dX10_most_93 6 rfl rfl ?_
                  refine x_goto (tgt := 99) C dX10_most_95 rfl ?_
                  refine x_istore_n (q := 100) (i := 3) (lv' := [(0, .ref (ad 51)), (1, .int (iI a0)), (2, .int (iI a1)), (3, .int (iI (-9))), (4, .int (iI v4_9)), (5, .int (iI v5_9)), (6, .int (iI (-9)))]) C dX10_most_99 rfl (Nat.le_of_ble_eq_true rfl) [1, 2, 3, 0, 4, 5, 6] rfl rfl ?_
                  refine x_iinc (q := 103) (z' := v5_9 + 1) (lv' := [(0, .ref (ad 51)), (1, .int (iI a0)), (2, .int (iI a1)), (3, .int (iI (-9))), (4, .int (iI v4_9)), (5, .int (iI (v5_9 + 1))), (6, .int (iI (-9)))]) C dX10_most_100 5 rfl rfl (Nat.le_of_ble_eq_true rfl) [1, 2, 3, 4, 5, 0, 6] rfl rfl ?_
                  refine x_goto (tgt := 36) C dX10_most_103 rfl ?_
                  obtain ⟨n23, hl24, h⟩ := h
                  refine x_sub [0, 1, 2, 3, 4, 5] rfl ?_
                  exact ih9 n23 hl24 _ _ _ _ h
              · have h := h.2 c19
                refine x_aload_n (q := 76) (i := 0) C dX10_most_75 rfl 0 rfl rfl ?_
                refine x_iconst (q := 77) (z := 1) C dX10_most_76 rfl rfl ?_
                refine x_virI (q := 80) C (Nat.le_of_ble_eq_true rfl) ly_51 rfl ck_RX10_173 vk_X10_figuresOf (m_X10_figuresOf l hI h) ⟨⟨rfl, rfl⟩, ⟨Nat.le_of_ble_eq_true rfl, Nat.le_of_ble_eq_true rfl⟩, ⟨Nat.zero_le _, Nat.zero_le _⟩⟩ dX10_most_77 rfl rfl (Nat.le_of_ble_eq_true rfl) rfl (fun z25 σ25 h => ?_)
                rw [h.1]
                have h := h.2
                refine x_goto (tgt := 85) C dX10_most_80 rfl ?_
                refine x_istore (q := 87) (i := 4) (lv' := [(0, .ref (ad 51)), (1, .int (iI a0)), (2, .int (iI a1)), (3, .int (iI v3_9)), (4, .int (iI z25)), (5, .int (iI v5_9)), (6, .int (iI (-9)))]) C dX10_most_85 (Nat.le_of_ble_eq_true rfl) [1, 2, 3, 4, 0, 5, 6] rfl rfl ?_
                refine x_iload (q := 89) C dX10_most_87 6 rfl rfl ?_
                refine x_iload_n (q := 90) (i := 3) C dX10_most_89 rfl 3 rfl rfl ?_
                refine x_icmp_le (q := 93) (tgt := 98) C dX10_most_90 rfl ⟨by decide, o18⟩ rfl (fun c26 => ?_) (fun c26 => ?_)
                · have h := h.1 c26
                  refine x_iload_n (q := 99) (i := 3) C dX10_most_98 rfl 3 rfl rfl ?_
                  refine x_istore_n (q := 100) (i := 3) (lv' := [(0, .ref (ad 51)), (1, .int (iI a0)), (2, .int (iI a1)), (3, .int (iI v3_9)), (4, .int (iI z25)), (5, .int (iI v5_9)), (6, .int (iI (-9)))]) C dX10_most_99 rfl (Nat.le_of_ble_eq_true rfl) [1, 2, 3, 0, 4, 5, 6] rfl rfl ?_
                  refine x_iinc (q := 103) (z' := v5_9 + 1) (lv' := [(0, .ref (ad 51)), (1, .int (iI a0)), (2, .int (iI a1)), (3, .int (iI v3_9)), (4, .int (iI z25)), (5, .int (iI (v5_9 + 1))), (6, .int (iI (-9)))]) C dX10_most_100 5 rfl rfl (Nat.le_of_ble_eq_true rfl) [1, 2, 3, 4, 5, 0, 6] rfl rfl ?_
                  refine x_goto (tgt := 36) C dX10_most_103 rfl ?_
                  obtain ⟨n27, hl28, h⟩ := h
                  refine x_sub [0, 1, 2, 3, 4, 5] rfl ?_
                  exact ih9 n27 hl28 _ _ _ _ h
                · have h := h.2 c26
                  refine x_iload (q := 95) C dX10_most_93 6 rfl rfl ?_
                  refine x_goto (tgt := 99) C dX10_most_95 rfl ?_
                  refine x_istore_n (q := 100) (i := 3) (lv' := [(0, .ref (ad 51)), (1, .int (iI a0)), (2, .int (iI a1)), (3, .int (iI (-9))), (4, .int (iI z25)), (5, .int (iI v5_9)), (6, .int (iI (-9)))]) C dX10_most_99 rfl (Nat.le_of_ble_eq_true rfl) [1, 2, 3, 0, 4, 5, 6] rfl rfl ?_
                  refine x_iinc (q := 103) (z' := v5_9 + 1) (lv' := [(0, .ref (ad 51)), (1, .int (iI a0)), (2, .int (iI a1)), (3, .int (iI (-9))), (4, .int (iI z25)), (5, .int (iI (v5_9 + 1))), (6, .int (iI (-9)))]) C dX10_most_100 5 rfl rfl (Nat.le_of_ble_eq_true rfl) [1, 2, 3, 4, 5, 0, 6] rfl rfl ?_
                  refine x_goto (tgt := 36) C dX10_most_103 rfl ?_
                  obtain ⟨n29, hl30, h⟩ := h
                  refine x_sub [0, 1, 2, 3, 4, 5] rfl ?_
                  exact ih9 n29 hl30 _ _ _ _ h
            · have h := h.2 c17
              refine x_aload_n (q := 55) (i := 0) C dX10_most_54 rfl 0 rfl rfl ?_
              refine x_iload_n (q := 56) (i := 1) C dX10_most_55 rfl 1 rfl rfl ?_
              refine x_bipush (q := 58) (z := 97) C dX10_most_56 rfl rfl ?_
              refine x_isub (q := 59) C dX10_most_58  rfl ?_
              refine x_virI (q := 62) C (Nat.le_of_ble_eq_true rfl) ly_51 rfl ck_RX10_176 vk_X10_timesSeen (m_X10_timesSeen l hI h) ⟨⟨rfl, rfl⟩, ⟨Nat.le_of_ble_eq_true rfl, Nat.le_of_ble_eq_true rfl⟩, ⟨Nat.zero_le _, Nat.zero_le _⟩⟩ dX10_most_59 rfl rfl (Nat.le_of_ble_eq_true rfl) rfl (fun z31 σ31 h => ?_)
              rw [h.1]
              have h := h.2
              refine x_goto (tgt := 67) C dX10_most_62 rfl ?_
              refine x_istore (q := 69) (i := 6) (lv' := [(0, .ref (ad 51)), (1, .int (iI a0)), (2, .int (iI a1)), (3, .int (iI v3_9)), (4, .int (iI v4_9)), (5, .int (iI v5_9)), (6, .int (iI z31))]) C dX10_most_67 (Nat.le_of_ble_eq_true rfl) [1, 2, 3, 4, 5, 6, 0] rfl rfl ?_
              refine x_iload (q := 71) C dX10_most_69 6 rfl rfl ?_
              refine x_iload_n (q := 72) (i := 3) C dX10_most_71 rfl 3 rfl rfl ?_
              obtain ⟨o32, h⟩ := h
              obtain ⟨o33, h⟩ := h
              refine x_icmp_le (q := 75) (tgt := 83) C dX10_most_72 rfl ⟨o32, o33⟩ rfl (fun c34 => ?_) (fun c34 => ?_)
              · have h := h.1 c34
                refine x_iload (q := 85) C dX10_most_83 4 rfl rfl ?_
                refine x_istore (q := 87) (i := 4) (lv' := [(0, .ref (ad 51)), (1, .int (iI a0)), (2, .int (iI a1)), (3, .int (iI v3_9)), (4, .int (iI v4_9)), (5, .int (iI v5_9)), (6, .int (iI z31))]) C dX10_most_85 (Nat.le_of_ble_eq_true rfl) [1, 2, 3, 4, 0, 5, 6] rfl rfl ?_
                refine x_iload (q := 89) C dX10_most_87 6 rfl rfl ?_
                refine x_iload_n (q := 90) (i := 3) C dX10_most_89 rfl 3 rfl rfl ?_
                refine x_icmp_le (q := 93) (tgt := 98) C dX10_most_90 rfl ⟨o32, o33⟩ rfl (fun c35 => ?_) (fun c35 => ?_)
                · have h := h.1 c35
                  refine x_iload_n (q := 99) (i := 3) C dX10_most_98 rfl 3 rfl rfl ?_
                  refine x_istore_n (q := 100) (i := 3) (lv' := [(0, .ref (ad 51)), (1, .int (iI a0)), (2, .int (iI a1)), (3, .int (iI v3_9)), (4, .int (iI v4_9)), (5, .int (iI v5_9)), (6, .int (iI z31))]) C dX10_most_99 rfl (Nat.le_of_ble_eq_true rfl) [1, 2, 3, 0, 4, 5, 6] rfl rfl ?_
                  refine x_iinc (q := 103) (z' := v5_9 + 1) (lv' := [(0, .ref (ad 51)), (1, .int (iI a0)), (2, .int (iI a1)), (3, .int (iI v3_9)), (4, .int (iI v4_9)), (5, .int (iI (v5_9 + 1))), (6, .int (iI z31))]) C dX10_most_100 5 rfl rfl (Nat.le_of_ble_eq_true rfl) [1, 2, 3, 4, 5, 0, 6] rfl rfl ?_
                  refine x_goto (tgt := 36) C dX10_most_103 rfl ?_
                  obtain ⟨n36, hl37, h⟩ := h
                  refine x_sub [0, 1, 2, 3, 4, 5] rfl ?_
                  exact ih9 n36 hl37 _ _ _ _ h
                · have h := h.2 c35
                  refine x_iload (q := 95) C dX10_most_93 6 rfl rfl ?_
                  refine x_goto (tgt := 99) C dX10_most_95 rfl ?_
                  refine x_istore_n (q := 100) (i := 3) (lv' := [(0, .ref (ad 51)), (1, .int (iI a0)), (2, .int (iI a1)), (3, .int (iI z31)), (4, .int (iI v4_9)), (5, .int (iI v5_9)), (6, .int (iI z31))]) C dX10_most_99 rfl (Nat.le_of_ble_eq_true rfl) [1, 2, 3, 0, 4, 5, 6] rfl rfl ?_
                  refine x_iinc (q := 103) (z' := v5_9 + 1) (lv' := [(0, .ref (ad 51)), (1, .int (iI a0)), (2, .int (iI a1)), (3, .int (iI z31)), (4, .int (iI v4_9)), (5, .int (iI (v5_9 + 1))), (6, .int (iI z31))]) C dX10_most_100 5 rfl rfl (Nat.le_of_ble_eq_true rfl) [1, 2, 3, 4, 5, 0, 6] rfl rfl ?_
                  refine x_goto (tgt := 36) C dX10_most_103 rfl ?_
                  obtain ⟨n38, hl39, h⟩ := h
                  refine x_sub [0, 1, 2, 3, 4, 5] rfl ?_
                  exact ih9 n38 hl39 _ _ _ _ h
              · have h := h.2 c34
                refine x_aload_n (q := 76) (i := 0) C dX10_most_75 rfl 0 rfl rfl ?_
                refine x_iconst (q := 77) (z := 1) C dX10_most_76 rfl rfl ?_
                refine x_virI (q := 80) C (Nat.le_of_ble_eq_true rfl) ly_51 rfl ck_RX10_173 vk_X10_figuresOf (m_X10_figuresOf l hI h) ⟨⟨rfl, rfl⟩, ⟨Nat.le_of_ble_eq_true rfl, Nat.le_of_ble_eq_true rfl⟩, ⟨Nat.zero_le _, Nat.zero_le _⟩⟩ dX10_most_77 rfl rfl (Nat.le_of_ble_eq_true rfl) rfl (fun z40 σ40 h => ?_)
                rw [h.1]
                have h := h.2
                refine x_goto (tgt := 85) C dX10_most_80 rfl ?_
                refine x_istore (q := 87) (i := 4) (lv' := [(0, .ref (ad 51)), (1, .int (iI a0)), (2, .int (iI a1)), (3, .int (iI v3_9)), (4, .int (iI z40)), (5, .int (iI v5_9)), (6, .int (iI z31))]) C dX10_most_85 (Nat.le_of_ble_eq_true rfl) [1, 2, 3, 4, 0, 5, 6] rfl rfl ?_
                refine x_iload (q := 89) C dX10_most_87 6 rfl rfl ?_
                refine x_iload_n (q := 90) (i := 3) C dX10_most_89 rfl 3 rfl rfl ?_
                refine x_icmp_le (q := 93) (tgt := 98) C dX10_most_90 rfl ⟨o32, o33⟩ rfl (fun c41 => ?_) (fun c41 => ?_)
                · have h := h.1 c41
                  refine x_iload_n (q := 99) (i := 3) C dX10_most_98 rfl 3 rfl rfl ?_
                  refine x_istore_n (q := 100) (i := 3) (lv' := [(0, .ref (ad 51)), (1, .int (iI a0)), (2, .int (iI a1)), (3, .int (iI v3_9)), (4, .int (iI z40)), (5, .int (iI v5_9)), (6, .int (iI z31))]) C dX10_most_99 rfl (Nat.le_of_ble_eq_true rfl) [1, 2, 3, 0, 4, 5, 6] rfl rfl ?_
                  refine x_iinc (q := 103) (z' := v5_9 + 1) (lv' := [(0, .ref (ad 51)), (1, .int (iI a0)), (2, .int (iI a1)), (3, .int (iI v3_9)), (4, .int (iI z40)), (5, .int (iI (v5_9 + 1))), (6, .int (iI z31))]) C dX10_most_100 5 rfl rfl (Nat.le_of_ble_eq_true rfl) [1, 2, 3, 4, 5, 0, 6] rfl rfl ?_
                  refine x_goto (tgt := 36) C dX10_most_103 rfl ?_
                  obtain ⟨n42, hl43, h⟩ := h
                  refine x_sub [0, 1, 2, 3, 4, 5] rfl ?_
                  exact ih9 n42 hl43 _ _ _ _ h
                · have h := h.2 c41
                  refine x_iload (q := 95) C dX10_most_93 6 rfl rfl ?_
                  refine x_goto (tgt := 99) C dX10_most_95 rfl ?_
                  refine x_istore_n (q := 100) (i := 3) (lv' := [(0, .ref (ad 51)), (1, .int (iI a0)), (2, .int (iI a1)), (3, .int (iI z31)), (4, .int (iI z40)), (5, .int (iI v5_9)), (6, .int (iI z31))]) C dX10_most_99 rfl (Nat.le_of_ble_eq_true rfl) [1, 2, 3, 0, 4, 5, 6] rfl rfl ?_
                  refine x_iinc (q := 103) (z' := v5_9 + 1) (lv' := [(0, .ref (ad 51)), (1, .int (iI a0)), (2, .int (iI a1)), (3, .int (iI z31)), (4, .int (iI z40)), (5, .int (iI (v5_9 + 1))), (6, .int (iI z31))]) C dX10_most_100 5 rfl rfl (Nat.le_of_ble_eq_true rfl) [1, 2, 3, 4, 5, 0, 6] rfl rfl ?_
                  refine x_goto (tgt := 36) C dX10_most_103 rfl ?_
                  obtain ⟨n44, hl45, h⟩ := h
                  refine x_sub [0, 1, 2, 3, 4, 5] rfl ?_
                  exact ih9 n44 hl45 _ _ _ _ h
      exact L9 n09 (-9) 0 0 σ h09
    · have h := h.2 c8
      refine x_bipush (q := 26) (z := (-2)) C dX10_most_24 rfl rfl ?_
      exact x_iret C dX10_most_26 h
abbrev rm_X10_tryThing : Room := { frames := 6, cells := 0, slots := 0, locals := 152 }
def vc_X10_tryThing (σ : GS) (a0 : Int) (a1 : Int) (a2 : Int) (Post : Int → GS → Prop) : Prop :=
  (rg a0) ∧
  ((a0 < 1 ∨ 7 < a0 →
    (Post 0 σ)) ∧
  (a0 = 1 →
    ((rg a1) ∧
      ((¬ a1 = 0 →
        (((0 : Int) = 0 →
          (Post 0 σ)) ∧
        (¬ (0 : Int) = 0 →
          ((0 ≤ (5 + a2) ∧ (5 + a2) < 10) ∧
          (Post 0 (up2 σ 54 (5 + a2).toNat ((σ 54 (5 + a2).toNat) + 1))))))) ∧
      (a1 = 0 →
        (vc_X10_canSpread σ 1 a2 (fun (z6 : Int) =>
          (rg z6) ∧
        ((z6 = 0 →
          (((0 : Int) = 0 →
            (Post 0 σ)) ∧
          (¬ (0 : Int) = 0 →
            ((0 ≤ (5 + a2) ∧ (5 + a2) < 10) ∧
            (Post 0 (up2 σ 54 (5 + a2).toNat ((σ 54 (5 + a2).toNat) + 1))))))) ∧
        (¬ z6 = 0 →
          (((1 : Int) = 0 →
            (Post 1 σ)) ∧
          (¬ (1 : Int) = 0 →
            ((0 ≤ (5 + a2) ∧ (5 + a2) < 10) ∧
            (Post 1 (up2 σ 54 (5 + a2).toNat ((σ 54 (5 + a2).toNat) + 1)))))))))))))) ∧
  (a0 = 2 →
    ((rg a1) ∧
      ((¬ a1 = 0 →
        (((0 : Int) = 0 →
          (Post 0 σ)) ∧
        (¬ (0 : Int) = 0 →
          ((0 ≤ (5 + a2) ∧ (5 + a2) < 10) ∧
          (Post 0 (up2 σ 54 (5 + a2).toNat ((σ 54 (5 + a2).toNat) - 1))))))) ∧
      (a1 = 0 →
        (vc_X10_canFold σ 1 a2 (fun (z17 : Int) =>
          (rg z17) ∧
        ((z17 = 0 →
          (((0 : Int) = 0 →
            (Post 0 σ)) ∧
          (¬ (0 : Int) = 0 →
            ((0 ≤ (5 + a2) ∧ (5 + a2) < 10) ∧
            (Post 0 (up2 σ 54 (5 + a2).toNat ((σ 54 (5 + a2).toNat) - 1))))))) ∧
        (¬ z17 = 0 →
          (((1 : Int) = 0 →
            (Post 1 σ)) ∧
          (¬ (1 : Int) = 0 →
            ((0 ≤ (5 + a2) ∧ (5 + a2) < 10) ∧
            (Post 1 (up2 σ 54 (5 + a2).toNat ((σ 54 (5 + a2).toNat) - 1)))))))))))))) ∧
  (a0 = 3 →
    (vc_X10_flingOn σ 1 (fun (z24 : Int) (σ24 : GS) =>
        (rg a1) ∧
      ((¬ a1 = 0 →
        (Post 0 σ24)) ∧
      (a1 = 0 →
        ((rg a2) ∧
        ((¬ a2 = 0 →
          (Post 0 σ24)) ∧
        (a2 = 0 →
          (Post 1 σ24))))))))) ∧
  (a0 = 4 →
    (vc_X10_snapOn σ 1 (fun (σ29 : GS) =>
        (rg a1) ∧
      ((¬ a1 = 0 →
        (Post 0 σ29)) ∧
      (a1 = 0 →
        ((rg a2) ∧
        ((¬ a2 = 0 →
          (Post 0 σ29)) ∧
        (a2 = 0 →
          (Post 1 σ29))))))))) ∧
  (a0 = 5 →
    ((rg a1) ∧
      ((¬ a1 = 0 →
        (Post 0 σ)) ∧
      (a1 = 0 →
        ((rg a2) ∧
        (vc_X10_in σ a2 0 1 (fun (z37 : Int) =>
          (rg z37) ∧
        ((z37 = 0 →
          (Post 0 σ)) ∧
        (¬ z37 = 0 →
          (vc_X10_readsOn σ 1 63 a2 (fun (z40 : Int) =>
            (rg z40) ∧
          ((z40 = (-9) →
            (Post 0 σ)) ∧
          (¬ z40 = (-9) →
            (Post 1 σ)))))))))))))) ∧
  (a0 = 6 →
    (vc_X10_isBlade σ a1 (fun (z43 : Int) =>
        (rg z43) ∧
      ((z43 = 0 →
        (Post 0 σ)) ∧
      (¬ z43 = 0 →
        (vc_X10_cellsSeen σ 1 a1 0 (fun (z46 : Int) =>
          (rg z46) ∧
        ((rg a2) ∧
        ((z46 < a2 →
          (Post 0 σ)) ∧
        (¬ z46 < a2 →
          (Post 1 σ))))))))))) ∧
  (a0 = 7 →
    (vc_X10_wide σ 1 (fun (z50 : Int) =>
        (rg z50) ∧
      ((rg ((10 * a1) + a2)) ∧
      ((z50 < ((10 * a1) + a2) →
        (Post 0 σ)) ∧
      (¬ z50 < ((10 * a1) + a2) →
        (Post 1 σ))))))))
set_option maxHeartbeats 4000000 in
set_option maxRecDepth 10000 in
theorem m_X10_tryThing (l : Launch) {ad : Nat → Nat} {D : va_G} {cI cZ cG : ClassId} (hI : Ij ad) {σ : GS} {a0 : Int} {a1 : Int} {a2 : Int} {Post : Int → GS → Prop} (h : vc_X10_tryThing σ a0 a1 a2 Post) : Met l yX10_tryThing (wX yX10_tryThing cX10_tryThing 6 (some .boolean)) rm_X10_tryThing (va_Pc [.ref (ad 51), .int (iI a0), .int (iI a1), .int (iI a2)] (Wd ad D cI cZ cG σ)) (QI ad D cI cZ cG Post) 0 0 (Aw ad) := by
  refine met_V (own := RX10) hI (by decide +kernel) rfl (Nat.le_of_ble_eq_true rfl) ?_
  intro p e s m args below meth c C
  unfold vc_X10_tryThing at h
  show V p l e rm_X10_tryThing s m args below meth c ad D cI cZ cG (Aw ad) 6 0 0 (MQ below (QI ad D cI cZ cG Post) args s 0 0 (Aw ad)) σ 0 [(0, .ref (ad 51)), (1, .int (iI a0)), (2, .int (iI a1)), (3, .int (iI a2))] []
  refine x_iload_n (q := 1) (i := 1) C dX10_tryThing_0 rfl 1 rfl rfl ?_
  obtain ⟨o1, h⟩ := h
  refine x_table C dX10_tryThing_1 o1 241 rfl [44, 84, 124, 144, 163, 196, 221] rfl rfl (fun c0 => ?_) (fun i t ht ha => ?_)
  · have h := h.1 c0
    refine x_iconst (q := 242) (z := 0) C dX10_tryThing_241 rfl rfl ?_
    exact x_zret C dX10_tryThing_242 (by decide) h
  · rcases i with _ | _ | _ | _ | _ | _ | _ | i
    · cases ht
      have h := h.2.1 (by omega)
      refine x_iload_n (q := 45) (i := 2) C dX10_tryThing_44 rfl 2 rfl rfl ?_
      obtain ⟨o2, h⟩ := h
      refine x_if_ne (q := 48) (tgt := 61) C dX10_tryThing_45 rfl o2 rfl (fun c3 => ?_) (fun c3 => ?_)
      · have h := h.1 c3
        refine x_iconst (q := 62) (z := 0) C dX10_tryThing_61 rfl rfl ?_
        refine x_istore (q := 64) (i := 4) (lv' := [(0, .ref (ad 51)), (1, .int (iI a0)), (2, .int (iI a1)), (3, .int (iI a2)), (4, .int (iI 0))]) C dX10_tryThing_62 (Nat.le_of_ble_eq_true rfl) [1, 2, 3, 4, 0] rfl rfl ?_
        refine x_iload (q := 66) C dX10_tryThing_64 4 rfl rfl ?_
        refine x_if_eq (q := 69) (tgt := 81) C dX10_tryThing_66 rfl (by decide) rfl (fun c4 => ?_) (fun c4 => ?_)
        · have h := h.1 c4
          refine x_iload (q := 83) C dX10_tryThing_81 4 rfl rfl ?_
          exact x_zret C dX10_tryThing_83 (by decide) h
        · have h := h.2 c4
          refine x_aload_n (q := 70) (i := 0) C dX10_tryThing_69 rfl 0 rfl rfl ?_
          refine x_getR (q := 73) (c0 := 54) C (Nat.le_of_ble_eq_true rfl) ly_51 fk_RX10_16 rfl dX10_tryThing_70 rfl ?_
          refine x_iconst (q := 74) (z := 5) C dX10_tryThing_73 rfl rfl ?_
          refine x_iload_n (q := 75) (i := 3) C dX10_tryThing_74 rfl 3 rfl rfl ?_
          refine x_iadd (q := 76) C dX10_tryThing_75  rfl ?_
          refine x_dup2 (q := 77) C dX10_tryThing_76 rfl rfl rfl ?_
          obtain ⟨o5, h⟩ := h
          refine x_iald (q := 78) C (Nat.le_of_ble_eq_true rfl) ly_54 dX10_tryThing_77 (ix o5 rfl) (Nat.le_of_ble_eq_true rfl) rfl ?_
          refine x_iconst (q := 79) (z := 1) C dX10_tryThing_78 rfl rfl ?_
          refine x_iadd (q := 80) C dX10_tryThing_79  rfl ?_
          refine x_iast (q := 81) C (Nat.le_of_ble_eq_true rfl) ly_54 dX10_tryThing_80 (ix o5 rfl) (Nat.le_of_ble_eq_true rfl)  rfl ?_
          refine x_iload (q := 83) C dX10_tryThing_81 4 rfl rfl ?_
          exact x_zret C dX10_tryThing_83 (by decide) h
      · have h := h.2 c3
        refine x_aload_n (q := 49) (i := 0) C dX10_tryThing_48 rfl 0 rfl rfl ?_
        refine x_iconst (q := 50) (z := 1) C dX10_tryThing_49 rfl rfl ?_
        refine x_iload_n (q := 51) (i := 3) C dX10_tryThing_50 rfl 3 rfl rfl ?_
        refine x_virI (q := 54) C (Nat.le_of_ble_eq_true rfl) ly_51 rfl ck_RX10_142 vk_X10_canSpread (m_X10_canSpread l hI h) ⟨⟨rfl, rfl⟩, ⟨Nat.le_of_ble_eq_true rfl, Nat.le_of_ble_eq_true rfl⟩, ⟨Nat.zero_le _, Nat.zero_le _⟩⟩ dX10_tryThing_51 rfl rfl (Nat.le_of_ble_eq_true rfl) rfl (fun z6 σ6 h => ?_)
        rw [h.1]
        have h := h.2
        obtain ⟨o7, h⟩ := h
        refine x_if_eq (q := 57) (tgt := 61) C dX10_tryThing_54 rfl o7 rfl (fun c8 => ?_) (fun c8 => ?_)
        · have h := h.1 c8
          refine x_iconst (q := 62) (z := 0) C dX10_tryThing_61 rfl rfl ?_
          refine x_istore (q := 64) (i := 4) (lv' := [(0, .ref (ad 51)), (1, .int (iI a0)), (2, .int (iI a1)), (3, .int (iI a2)), (4, .int (iI 0))]) C dX10_tryThing_62 (Nat.le_of_ble_eq_true rfl) [1, 2, 3, 4, 0] rfl rfl ?_
          refine x_iload (q := 66) C dX10_tryThing_64 4 rfl rfl ?_
          refine x_if_eq (q := 69) (tgt := 81) C dX10_tryThing_66 rfl (by decide) rfl (fun c9 => ?_) (fun c9 => ?_)
          · have h := h.1 c9
            refine x_iload (q := 83) C dX10_tryThing_81 4 rfl rfl ?_
            exact x_zret C dX10_tryThing_83 (by decide) h
          · have h := h.2 c9
            refine x_aload_n (q := 70) (i := 0) C dX10_tryThing_69 rfl 0 rfl rfl ?_
            refine x_getR (q := 73) (c0 := 54) C (Nat.le_of_ble_eq_true rfl) ly_51 fk_RX10_16 rfl dX10_tryThing_70 rfl ?_
            refine x_iconst (q := 74) (z := 5) C dX10_tryThing_73 rfl rfl ?_
            refine x_iload_n (q := 75) (i := 3) C dX10_tryThing_74 rfl 3 rfl rfl ?_
            refine x_iadd (q := 76) C dX10_tryThing_75  rfl ?_
            refine x_dup2 (q := 77) C dX10_tryThing_76 rfl rfl rfl ?_
            obtain ⟨o10, h⟩ := h
            refine x_iald (q := 78) C (Nat.le_of_ble_eq_true rfl) ly_54 dX10_tryThing_77 (ix o10 rfl) (Nat.le_of_ble_eq_true rfl) rfl ?_
            refine x_iconst (q := 79) (z := 1) C dX10_tryThing_78 rfl rfl ?_
            refine x_iadd (q := 80) C dX10_tryThing_79  rfl ?_
            refine x_iast (q := 81) C (Nat.le_of_ble_eq_true rfl) ly_54 dX10_tryThing_80 (ix o10 rfl) (Nat.le_of_ble_eq_true rfl)  rfl ?_
            refine x_iload (q := 83) C dX10_tryThing_81 4 rfl rfl ?_
            exact x_zret C dX10_tryThing_83 (by decide) h
        · have h := h.2 c8
          refine x_iconst (q := 58) (z := 1) C dX10_tryThing_57 rfl rfl ?_
          refine x_goto (tgt := 62) C dX10_tryThing_58 rfl ?_
          refine x_istore (q := 64) (i := 4) (lv' := [(0, .ref (ad 51)), (1, .int (iI a0)), (2, .int (iI a1)), (3, .int (iI a2)), (4, .int (iI 1))]) C dX10_tryThing_62 (Nat.le_of_ble_eq_true rfl) [1, 2, 3, 4, 0] rfl rfl ?_
          refine x_iload (q := 66) C dX10_tryThing_64 4 rfl rfl ?_
          refine x_if_eq (q := 69) (tgt := 81) C dX10_tryThing_66 rfl (by decide) rfl (fun c11 => ?_) (fun c11 => ?_)
          · have h := h.1 c11
            refine x_iload (q := 83) C dX10_tryThing_81 4 rfl rfl ?_
            exact x_zret C dX10_tryThing_83 (by decide) h
          · have h := h.2 c11
            refine x_aload_n (q := 70) (i := 0) C dX10_tryThing_69 rfl 0 rfl rfl ?_
            refine x_getR (q := 73) (c0 := 54) C (Nat.le_of_ble_eq_true rfl) ly_51 fk_RX10_16 rfl dX10_tryThing_70 rfl ?_
            refine x_iconst (q := 74) (z := 5) C dX10_tryThing_73 rfl rfl ?_
            refine x_iload_n (q := 75) (i := 3) C dX10_tryThing_74 rfl 3 rfl rfl ?_
            refine x_iadd (q := 76) C dX10_tryThing_75  rfl ?_
            refine x_dup2 (q := 77) C dX10_tryThing_76 rfl rfl rfl ?_
            obtain ⟨o12, h⟩ := h
            refine x_iald (q := 78) C (Nat.le_of_ble_eq_true rfl) ly_54 dX10_tryThing_77 (ix o12 rfl) (Nat.le_of_ble_eq_true rfl) rfl ?_
            refine x_iconst (q := 79) (z := 1) C dX10_tryThing_78 rfl rfl ?_
            refine x_iadd (q := 80) C dX10_tryThing_79  rfl ?_
            refine x_iast (q := 81) C (Nat.le_of_ble_eq_true rfl) ly_54 dX10_tryThing_80 (ix o12 rfl) (Nat.le_of_ble_eq_true rfl)  rfl ?_
            refine x_iload (q := 83) C dX10_tryThing_81 4 rfl rfl ?_
            exact x_zret C dX10_tryThing_83 (by decide) h
    · cases ht
      have h := h.2.2.1 (by omega)
      refine x_iload_n (q := 85) (i := 2) C dX10_tryThing_84 rfl 2 rfl rfl ?_
      obtain ⟨o13, h⟩ := h
      refine x_if_ne (q := 88) (tgt := 101) C dX10_tryThing_85 rfl o13 rfl (fun c14 => ?_) (fun c14 => ?_)
      · have h := h.1 c14
        refine x_iconst (q := 102) (z := 0) C dX10_tryThing_101 rfl rfl ?_
        refine x_istore (q := 104) (i := 5) (lv' := [(0, .ref (ad 51)), (1, .int (iI a0)), (2, .int (iI a1)), (3, .int (iI a2)), (5, .int (iI 0))]) C dX10_tryThing_102 (Nat.le_of_ble_eq_true rfl) [1, 2, 3, 4, 0] rfl rfl ?_
        refine x_iload (q := 106) C dX10_tryThing_104 4 rfl rfl ?_
        refine x_if_eq (q := 109) (tgt := 121) C dX10_tryThing_106 rfl (by decide) rfl (fun c15 => ?_) (fun c15 => ?_)
        · have h := h.1 c15
          refine x_iload (q := 123) C dX10_tryThing_121 4 rfl rfl ?_
          exact x_zret C dX10_tryThing_123 (by decide) h
        · have h := h.2 c15
          refine x_aload_n (q := 110) (i := 0) C dX10_tryThing_109 rfl 0 rfl rfl ?_
          refine x_getR (q := 113) (c0 := 54) C (Nat.le_of_ble_eq_true rfl) ly_51 fk_RX10_16 rfl dX10_tryThing_110 rfl ?_
          refine x_iconst (q := 114) (z := 5) C dX10_tryThing_113 rfl rfl ?_
          refine x_iload_n (q := 115) (i := 3) C dX10_tryThing_114 rfl 3 rfl rfl ?_
          refine x_iadd (q := 116) C dX10_tryThing_115  rfl ?_
          refine x_dup2 (q := 117) C dX10_tryThing_116 rfl rfl rfl ?_
          obtain ⟨o16, h⟩ := h
          refine x_iald (q := 118) C (Nat.le_of_ble_eq_true rfl) ly_54 dX10_tryThing_117 (ix o16 rfl) (Nat.le_of_ble_eq_true rfl) rfl ?_
          refine x_iconst (q := 119) (z := 1) C dX10_tryThing_118 rfl rfl ?_
          refine x_isub (q := 120) C dX10_tryThing_119  rfl ?_
          refine x_iast (q := 121) C (Nat.le_of_ble_eq_true rfl) ly_54 dX10_tryThing_120 (ix o16 rfl) (Nat.le_of_ble_eq_true rfl)  rfl ?_
          refine x_iload (q := 123) C dX10_tryThing_121 4 rfl rfl ?_
          exact x_zret C dX10_tryThing_123 (by decide) h
      · have h := h.2 c14
        refine x_aload_n (q := 89) (i := 0) C dX10_tryThing_88 rfl 0 rfl rfl ?_
        refine x_iconst (q := 90) (z := 1) C dX10_tryThing_89 rfl rfl ?_
        refine x_iload_n (q := 91) (i := 3) C dX10_tryThing_90 rfl 3 rfl rfl ?_
        refine x_virI (q := 94) C (Nat.le_of_ble_eq_true rfl) ly_51 rfl ck_RX10_148 vk_X10_canFold (m_X10_canFold l hI h) ⟨⟨rfl, rfl⟩, ⟨Nat.le_of_ble_eq_true rfl, Nat.le_of_ble_eq_true rfl⟩, ⟨Nat.zero_le _, Nat.zero_le _⟩⟩ dX10_tryThing_91 rfl rfl (Nat.le_of_ble_eq_true rfl) rfl (fun z17 σ17 h => ?_)
        rw [h.1]
        have h := h.2
        obtain ⟨o18, h⟩ := h
        refine x_if_eq (q := 97) (tgt := 101) C dX10_tryThing_94 rfl o18 rfl (fun c19 => ?_) (fun c19 => ?_)
        · have h := h.1 c19
          refine x_iconst (q := 102) (z := 0) C dX10_tryThing_101 rfl rfl ?_
          refine x_istore (q := 104) (i := 5) (lv' := [(0, .ref (ad 51)), (1, .int (iI a0)), (2, .int (iI a1)), (3, .int (iI a2)), (5, .int (iI 0))]) C dX10_tryThing_102 (Nat.le_of_ble_eq_true rfl) [1, 2, 3, 4, 0] rfl rfl ?_
          refine x_iload (q := 106) C dX10_tryThing_104 4 rfl rfl ?_
          refine x_if_eq (q := 109) (tgt := 121) C dX10_tryThing_106 rfl (by decide) rfl (fun c20 => ?_) (fun c20 => ?_)
          · have h := h.1 c20
            refine x_iload (q := 123) C dX10_tryThing_121 4 rfl rfl ?_
            exact x_zret C dX10_tryThing_123 (by decide) h
          · have h := h.2 c20
            refine x_aload_n (q := 110) (i := 0) C dX10_tryThing_109 rfl 0 rfl rfl ?_
            refine x_getR (q := 113) (c0 := 54) C (Nat.le_of_ble_eq_true rfl) ly_51 fk_RX10_16 rfl dX10_tryThing_110 rfl ?_
            refine x_iconst (q := 114) (z := 5) C dX10_tryThing_113 rfl rfl ?_
            refine x_iload_n (q := 115) (i := 3) C dX10_tryThing_114 rfl 3 rfl rfl ?_
            refine x_iadd (q := 116) C dX10_tryThing_115  rfl ?_
            refine x_dup2 (q := 117) C dX10_tryThing_116 rfl rfl rfl ?_
            obtain ⟨o21, h⟩ := h
            refine x_iald (q := 118) C (Nat.le_of_ble_eq_true rfl) ly_54 dX10_tryThing_117 (ix o21 rfl) (Nat.le_of_ble_eq_true rfl) rfl ?_
            refine x_iconst (q := 119) (z := 1) C dX10_tryThing_118 rfl rfl ?_
            refine x_isub (q := 120) C dX10_tryThing_119  rfl ?_
            refine x_iast (q := 121) C (Nat.le_of_ble_eq_true rfl) ly_54 dX10_tryThing_120 (ix o21 rfl) (Nat.le_of_ble_eq_true rfl)  rfl ?_
            refine x_iload (q := 123) C dX10_tryThing_121 4 rfl rfl ?_
            exact x_zret C dX10_tryThing_123 (by decide) h
        · have h := h.2 c19
          refine x_iconst (q := 98) (z := 1) C dX10_tryThing_97 rfl rfl ?_
          refine x_goto (tgt := 102) C dX10_tryThing_98 rfl ?_
          refine x_istore (q := 104) (i := 5) (lv' := [(0, .ref (ad 51)), (1, .int (iI a0)), (2, .int (iI a1)), (3, .int (iI a2)), (5, .int (iI 1))]) C dX10_tryThing_102 (Nat.le_of_ble_eq_true rfl) [1, 2, 3, 4, 0] rfl rfl ?_
          refine x_iload (q := 106) C dX10_tryThing_104 4 rfl rfl ?_
          refine x_if_eq (q := 109) (tgt := 121) C dX10_tryThing_106 rfl (by decide) rfl (fun c22 => ?_) (fun c22 => ?_)
          · have h := h.1 c22
            refine x_iload (q := 123) C dX10_tryThing_121 4 rfl rfl ?_
            exact x_zret C dX10_tryThing_123 (by decide) h
          · have h := h.2 c22
            refine x_aload_n (q := 110) (i := 0) C dX10_tryThing_109 rfl 0 rfl rfl ?_
            refine x_getR (q := 113) (c0 := 54) C (Nat.le_of_ble_eq_true rfl) ly_51 fk_RX10_16 rfl dX10_tryThing_110 rfl ?_
            refine x_iconst (q := 114) (z := 5) C dX10_tryThing_113 rfl rfl ?_
            refine x_iload_n (q := 115) (i := 3) C dX10_tryThing_114 rfl 3 rfl rfl ?_
            refine x_iadd (q := 116) C dX10_tryThing_115  rfl ?_
            refine x_dup2 (q := 117) C dX10_tryThing_116 rfl rfl rfl ?_
            obtain ⟨o23, h⟩ := h
            refine x_iald (q := 118) C (Nat.le_of_ble_eq_true rfl) ly_54 dX10_tryThing_117 (ix o23 rfl) (Nat.le_of_ble_eq_true rfl) rfl ?_
            refine x_iconst (q := 119) (z := 1) C dX10_tryThing_118 rfl rfl ?_
            refine x_isub (q := 120) C dX10_tryThing_119  rfl ?_
            refine x_iast (q := 121) C (Nat.le_of_ble_eq_true rfl) ly_54 dX10_tryThing_120 (ix o23 rfl) (Nat.le_of_ble_eq_true rfl)  rfl ?_
            refine x_iload (q := 123) C dX10_tryThing_121 4 rfl rfl ?_
            exact x_zret C dX10_tryThing_123 (by decide) h
    · cases ht
      have h := h.2.2.2.1 (by omega)
      refine x_aload_n (q := 125) (i := 0) C dX10_tryThing_124 rfl 0 rfl rfl ?_
      refine x_iconst (q := 126) (z := 1) C dX10_tryThing_125 rfl rfl ?_
      refine x_virI (q := 129) C (Nat.le_of_ble_eq_true rfl) ly_51 rfl ck_RX10_151 vk_X10_flingOn (m_X10_flingOn l hI h) ⟨⟨rfl, rfl⟩, ⟨Nat.le_of_ble_eq_true rfl, Nat.le_of_ble_eq_true rfl⟩, ⟨Nat.zero_le _, Nat.zero_le _⟩⟩ dX10_tryThing_126 rfl rfl (Nat.le_of_ble_eq_true rfl) rfl (fun z24 σ24 h => ?_)
      refine x_pop (q := 130) C dX10_tryThing_129 rfl rfl ?_
      refine x_iload_n (q := 131) (i := 2) C dX10_tryThing_130 rfl 2 rfl rfl ?_
      obtain ⟨o25, h⟩ := h
      refine x_if_ne (q := 134) (tgt := 142) C dX10_tryThing_131 rfl o25 rfl (fun c26 => ?_) (fun c26 => ?_)
      · have h := h.1 c26
        refine x_iconst (q := 143) (z := 0) C dX10_tryThing_142 rfl rfl ?_
        exact x_zret C dX10_tryThing_143 (by decide) h
      · have h := h.2 c26
        refine x_iload_n (q := 135) (i := 3) C dX10_tryThing_134 rfl 3 rfl rfl ?_
        obtain ⟨o27, h⟩ := h
        refine x_if_ne (q := 138) (tgt := 142) C dX10_tryThing_135 rfl o27 rfl (fun c28 => ?_) (fun c28 => ?_)
        · have h := h.1 c28
          refine x_iconst (q := 143) (z := 0) C dX10_tryThing_142 rfl rfl ?_
          exact x_zret C dX10_tryThing_143 (by decide) h
        · have h := h.2 c28
          refine x_iconst (q := 139) (z := 1) C dX10_tryThing_138 rfl rfl ?_
          refine x_goto (tgt := 143) C dX10_tryThing_139 rfl ?_
          exact x_zret C dX10_tryThing_143 (by decide) h
    · cases ht
      have h := h.2.2.2.2.1 (by omega)
      refine x_aload_n (q := 145) (i := 0) C dX10_tryThing_144 rfl 0 rfl rfl ?_
      refine x_iconst (q := 146) (z := 1) C dX10_tryThing_145 rfl rfl ?_
      refine x_virV (q := 149) C (Nat.le_of_ble_eq_true rfl) ly_51 rfl ck_RX10_157 vk_X10_snapOn (m_X10_snapOn l hI h) ⟨⟨rfl, rfl⟩, ⟨Nat.le_of_ble_eq_true rfl, Nat.le_of_ble_eq_true rfl⟩, ⟨Nat.zero_le _, Nat.zero_le _⟩⟩ dX10_tryThing_146 rfl rfl (Nat.le_of_ble_eq_true rfl) rfl (fun σ29 h => ?_)
      refine x_iload_n (q := 150) (i := 2) C dX10_tryThing_149 rfl 2 rfl rfl ?_
      obtain ⟨o30, h⟩ := h
      refine x_if_ne (q := 153) (tgt := 161) C dX10_tryThing_150 rfl o30 rfl (fun c31 => ?_) (fun c31 => ?_)
      · have h := h.1 c31
        refine x_iconst (q := 162) (z := 0) C dX10_tryThing_161 rfl rfl ?_
        exact x_zret C dX10_tryThing_162 (by decide) h
      · have h := h.2 c31
        refine x_iload_n (q := 154) (i := 3) C dX10_tryThing_153 rfl 3 rfl rfl ?_
        obtain ⟨o32, h⟩ := h
        refine x_if_ne (q := 157) (tgt := 161) C dX10_tryThing_154 rfl o32 rfl (fun c33 => ?_) (fun c33 => ?_)
        · have h := h.1 c33
          refine x_iconst (q := 162) (z := 0) C dX10_tryThing_161 rfl rfl ?_
          exact x_zret C dX10_tryThing_162 (by decide) h
        · have h := h.2 c33
          refine x_iconst (q := 158) (z := 1) C dX10_tryThing_157 rfl rfl ?_
          refine x_goto (tgt := 162) C dX10_tryThing_158 rfl ?_
          exact x_zret C dX10_tryThing_162 (by decide) h
    · cases ht
      have h := h.2.2.2.2.2.1 (by omega)
      refine x_iload_n (q := 164) (i := 2) C dX10_tryThing_163 rfl 2 rfl rfl ?_
      obtain ⟨o34, h⟩ := h
      refine x_if_ne (q := 167) (tgt := 194) C dX10_tryThing_164 rfl o34 rfl (fun c35 => ?_) (fun c35 => ?_)
      · have h := h.1 c35
        refine x_iconst (q := 195) (z := 0) C dX10_tryThing_194 rfl rfl ?_
        exact x_zret C dX10_tryThing_195 (by decide) h
      · have h := h.2 c35
        refine x_iload_n (q := 168) (i := 3) C dX10_tryThing_167 rfl 3 rfl rfl ?_
        obtain ⟨o36, h⟩ := h
        refine x_i2l (q := 169) C dX10_tryThing_168 o36 rfl ?_
        refine x_lconst (q := 170) (z := 0) C dX10_tryThing_169 rfl rfl ?_
        refine x_lconst (q := 171) (z := 1) C dX10_tryThing_170 rfl rfl ?_
        refine x_staI (q := 174) C ck_RX10_52 t4_33 (m_X10_in l hI h) ⟨⟨rfl, rfl⟩, ⟨Nat.le_of_ble_eq_true rfl, Nat.le_of_ble_eq_true rfl⟩, ⟨Nat.zero_le _, Nat.zero_le _⟩⟩ dX10_tryThing_171 rfl rfl (Nat.le_of_ble_eq_true rfl) rfl (fun z37 σ37 h => ?_)
        rw [h.1]
        have h := h.2
        obtain ⟨o38, h⟩ := h
        refine x_if_eq (q := 177) (tgt := 194) C dX10_tryThing_174 rfl o38 rfl (fun c39 => ?_) (fun c39 => ?_)
        · have h := h.1 c39
          refine x_iconst (q := 195) (z := 0) C dX10_tryThing_194 rfl rfl ?_
          exact x_zret C dX10_tryThing_195 (by decide) h
        · have h := h.2 c39
          refine x_aload_n (q := 178) (i := 0) C dX10_tryThing_177 rfl 0 rfl rfl ?_
          refine x_iconst (q := 179) (z := 1) C dX10_tryThing_178 rfl rfl ?_
          refine x_bipush (q := 181) (z := 63) C dX10_tryThing_179 rfl rfl ?_
          refine x_iload_n (q := 182) (i := 3) C dX10_tryThing_181 rfl 3 rfl rfl ?_
          refine x_virI (q := 185) C (Nat.le_of_ble_eq_true rfl) ly_51 rfl ck_RX10_161 vk_X10_readsOn (m_X10_readsOn l hI h) ⟨⟨rfl, rfl⟩, ⟨Nat.le_of_ble_eq_true rfl, Nat.le_of_ble_eq_true rfl⟩, ⟨Nat.zero_le _, Nat.zero_le _⟩⟩ dX10_tryThing_182 rfl rfl (Nat.le_of_ble_eq_true rfl) rfl (fun z40 σ40 h => ?_)
          rw [h.1]
          have h := h.2
          refine x_bipush (q := 187) (z := (-9)) C dX10_tryThing_185 rfl rfl ?_
          obtain ⟨o41, h⟩ := h
          refine x_icmp_eq (q := 190) (tgt := 194) C dX10_tryThing_187 rfl ⟨o41, by decide⟩ rfl (fun c42 => ?_) (fun c42 => ?_)
          · have h := h.1 c42
            refine x_iconst (q := 195) (z := 0) C dX10_tryThing_194 rfl rfl ?_
            exact x_zret C dX10_tryThing_195 (by decide) h
          · have h := h.2 c42
            refine x_iconst (q := 191) (z := 1) C dX10_tryThing_190 rfl rfl ?_
            refine x_goto (tgt := 195) C dX10_tryThing_191 rfl ?_
            exact x_zret C dX10_tryThing_195 (by decide) h
    · cases ht
      have h := h.2.2.2.2.2.2.1 (by omega)
      refine x_aload_n (q := 197) (i := 0) C dX10_tryThing_196 rfl 0 rfl rfl ?_
      refine x_iload_n (q := 198) (i := 2) C dX10_tryThing_197 rfl 2 rfl rfl ?_
      refine x_virI (q := 201) C (Nat.le_of_ble_eq_true rfl) ly_51 rfl ck_RX10_126 vk_X10_isBlade (m_X10_isBlade l hI h) ⟨⟨rfl, rfl⟩, ⟨Nat.le_of_ble_eq_true rfl, Nat.le_of_ble_eq_true rfl⟩, ⟨Nat.zero_le _, Nat.zero_le _⟩⟩ dX10_tryThing_198 rfl rfl (Nat.le_of_ble_eq_true rfl) rfl (fun z43 σ43 h => ?_)
      rw [h.1]
      have h := h.2
      obtain ⟨o44, h⟩ := h
      refine x_if_eq (q := 204) (tgt := 219) C dX10_tryThing_201 rfl o44 rfl (fun c45 => ?_) (fun c45 => ?_)
      · have h := h.1 c45
        refine x_iconst (q := 220) (z := 0) C dX10_tryThing_219 rfl rfl ?_
        exact x_zret C dX10_tryThing_220 (by decide) h
      · have h := h.2 c45
        refine x_aload_n (q := 205) (i := 0) C dX10_tryThing_204 rfl 0 rfl rfl ?_
        refine x_iconst (q := 206) (z := 1) C dX10_tryThing_205 rfl rfl ?_
        refine x_iload_n (q := 207) (i := 2) C dX10_tryThing_206 rfl 2 rfl rfl ?_
        refine x_iconst (q := 208) (z := 0) C dX10_tryThing_207 rfl rfl ?_
        refine x_virI (q := 211) C (Nat.le_of_ble_eq_true rfl) ly_51 rfl ck_RX10_130 vk_X10_cellsSeen (m_X10_cellsSeen l hI h) ⟨⟨rfl, rfl⟩, ⟨Nat.le_of_ble_eq_true rfl, Nat.le_of_ble_eq_true rfl⟩, ⟨Nat.zero_le _, Nat.zero_le _⟩⟩ dX10_tryThing_208 rfl rfl (Nat.le_of_ble_eq_true rfl) rfl (fun z46 σ46 h => ?_)
        rw [h.1]
        have h := h.2
        refine x_iload_n (q := 212) (i := 3) C dX10_tryThing_211 rfl 3 rfl rfl ?_
        obtain ⟨o47, h⟩ := h
        obtain ⟨o48, h⟩ := h
        refine x_icmp_lt (q := 215) (tgt := 219) C dX10_tryThing_212 rfl ⟨o47, o48⟩ rfl (fun c49 => ?_) (fun c49 => ?_)
        · have h := h.1 c49
          refine x_iconst (q := 220) (z := 0) C dX10_tryThing_219 rfl rfl ?_
          exact x_zret C dX10_tryThing_220 (by decide) h
        · have h := h.2 c49
          refine x_iconst (q := 216) (z := 1) C dX10_tryThing_215 rfl rfl ?_
          refine x_goto (tgt := 220) C dX10_tryThing_216 rfl ?_
          exact x_zret C dX10_tryThing_220 (by decide) h
    · cases ht
      have h := h.2.2.2.2.2.2.2 (by omega)
      refine x_aload_n (q := 222) (i := 0) C dX10_tryThing_221 rfl 0 rfl rfl ?_
      refine x_iconst (q := 223) (z := 1) C dX10_tryThing_222 rfl rfl ?_
      refine x_virI (q := 226) C (Nat.le_of_ble_eq_true rfl) ly_51 rfl ck_RX10_179 vk_X10_wide (m_X10_wide l hI h) ⟨⟨rfl, rfl⟩, ⟨Nat.le_of_ble_eq_true rfl, Nat.le_of_ble_eq_true rfl⟩, ⟨Nat.zero_le _, Nat.zero_le _⟩⟩ dX10_tryThing_223 rfl rfl (Nat.le_of_ble_eq_true rfl) rfl (fun z50 σ50 h => ?_)
      rw [h.1]
      have h := h.2
      refine x_bipush (q := 228) (z := 10) C dX10_tryThing_226 rfl rfl ?_
      refine x_iload_n (q := 229) (i := 2) C dX10_tryThing_228 rfl 2 rfl rfl ?_
      refine x_imul (q := 230) C dX10_tryThing_229  rfl ?_
      refine x_iload_n (q := 231) (i := 3) C dX10_tryThing_230 rfl 3 rfl rfl ?_
      refine x_iadd (q := 232) C dX10_tryThing_231  rfl ?_
      obtain ⟨o51, h⟩ := h
      obtain ⟨o52, h⟩ := h
      refine x_icmp_lt (q := 235) (tgt := 239) C dX10_tryThing_232 rfl ⟨o51, o52⟩ rfl (fun c53 => ?_) (fun c53 => ?_)
      · have h := h.1 c53
        refine x_iconst (q := 240) (z := 0) C dX10_tryThing_239 rfl rfl ?_
        exact x_zret C dX10_tryThing_240 (by decide) h
      · have h := h.2 c53
        refine x_iconst (q := 236) (z := 1) C dX10_tryThing_235 rfl rfl ?_
        refine x_goto (tgt := 240) C dX10_tryThing_236 rfl ?_
        exact x_zret C dX10_tryThing_240 (by decide) h
    · simp at ht
abbrev rm_X10_thousandTo : Room := { frames := 0, cells := 0, slots := 0, locals := 0 }
def vc_X10_thousandTo (σ : GS) (a0 : Int) (Post : Int → Prop) : Prop :=
  ∃ I1 : Nat → Int → Int → Prop, (∃ n : Nat, I1 n 1 0) ∧ ∀ (n1 : Nat) (v1_1 : Int) (v3_1 : Int), I1 n1 v1_1 v3_1 →
  ((rg v3_1) ∧
      ((rg a0) ∧
      ((a0 ≤ v3_1 →
        (Post v1_1)) ∧
      (¬ a0 ≤ v3_1 →
        (∃ n' : Nat, n' < n1 ∧ I1 n' (v1_1 * 1000) (v3_1 + 1))))))
set_option maxHeartbeats 4000000 in
set_option maxRecDepth 10000 in
theorem m_X10_thousandTo (l : Launch) {ad : Nat → Nat} {D : va_G} {cI cZ cG : ClassId} (hI : Ij ad) {σ : GS} {a0 : Int} {Post : Int → Prop} (h : vc_X10_thousandTo σ a0 Post) : Met l yX10_thousandTo (wX yX10_thousandTo cX10_thousandTo 4 (some .long)) rm_X10_thousandTo (va_Pc [.int (iI a0)] (Wd ad D cI cZ cG σ)) (QL ad D cI cZ cG (fun z u => u = σ ∧ Post z)) 0 0 (Aw ad) := by
  refine met_V (own := RX10) hI (by decide +kernel) rfl (Nat.le_of_ble_eq_true rfl) ?_
  intro p e s m args below meth c C
  unfold vc_X10_thousandTo at h
  show V p l e rm_X10_thousandTo s m args below meth c ad D cI cZ cG (Aw ad) 4 0 0 (MQ below (QL ad D cI cZ cG (fun z u => u = σ ∧ Post z)) args s 0 0 (Aw ad)) σ 0 [(0, .int (iI a0))] []
  refine x_lconst (q := 1) (z := 1) C dX10_thousandTo_0 rfl rfl ?_
  refine x_lstore_n (q := 2) (i := 1) (lv' := [(0, .int (iI a0)), (1, .long (lI 1))]) C dX10_thousandTo_1 rfl (Nat.le_of_ble_eq_true rfl) [1, 0] rfl rfl ?_
  refine x_iconst (q := 3) (z := 0) C dX10_thousandTo_2 rfl rfl ?_
  refine x_istore_n (q := 4) (i := 3) (lv' := [(0, .int (iI a0)), (1, .long (lI 1)), (3, .int (iI 0))]) C dX10_thousandTo_3 rfl (Nat.le_of_ble_eq_true rfl) [1, 2, 0] rfl rfl ?_
  obtain ⟨I1, ⟨n01, h01⟩, hs1⟩ := h
  have L1 : ∀ (n1 : Nat) (v1_1 : Int) (v3_1 : Int), I1 n1 v1_1 v3_1 → V p l e rm_X10_thousandTo s m args below meth c ad D cI cZ cG (Aw ad) 4 0 0 (MQ below (QL ad D cI cZ cG (fun z u => u = σ ∧ Post z)) args s 0 0 (Aw ad)) σ 4 [(0, .int (iI a0)), (1, .long (lI v1_1)), (3, .int (iI v3_1))] [] := by
    intro n1
    induction n1 using Nat.strongRecOn with
    | ind n1 ih1 =>
      intro v1_1 v3_1 h
      have h := hs1 n1 v1_1 v3_1 h
      refine x_iload_n (q := 5) (i := 3) C dX10_thousandTo_4 rfl 2 rfl rfl ?_
      refine x_iload_n (q := 6) (i := 0) C dX10_thousandTo_5 rfl 0 rfl rfl ?_
      obtain ⟨o2, h⟩ := h
      obtain ⟨o3, h⟩ := h
      refine x_icmp_ge (q := 9) (tgt := 21) C dX10_thousandTo_6 rfl ⟨o2, o3⟩ rfl (fun c4 => ?_) (fun c4 => ?_)
      · have h := h.1 c4
        refine x_lload_n (q := 22) (i := 1) C dX10_thousandTo_21 rfl 1 rfl rfl ?_
        exact x_lret C dX10_thousandTo_22 ⟨rfl, h⟩
      · have h := h.2 c4
        refine x_lload_n (q := 10) (i := 1) C dX10_thousandTo_9 rfl 1 rfl rfl ?_
        refine x_ldc2 (q := 13) (z := 1000) C dX10_thousandTo_10 t4_209 rfl rfl ?_
        refine x_lmul (q := 14) C dX10_thousandTo_13  rfl ?_
        refine x_lstore_n (q := 15) (i := 1) (lv' := [(0, .int (iI a0)), (1, .long (lI (v1_1 * 1000))), (3, .int (iI v3_1))]) C dX10_thousandTo_14 rfl (Nat.le_of_ble_eq_true rfl) [1, 0, 2] rfl rfl ?_
        refine x_iinc (q := 18) (z' := v3_1 + 1) (lv' := [(0, .int (iI a0)), (1, .long (lI (v1_1 * 1000))), (3, .int (iI (v3_1 + 1)))]) C dX10_thousandTo_15 2 rfl rfl (Nat.le_of_ble_eq_true rfl) [1, 2, 0] rfl rfl ?_
        refine x_goto (tgt := 4) C dX10_thousandTo_18 rfl ?_
        obtain ⟨n5, hl6, h⟩ := h
        refine x_sub [0, 1, 2] rfl ?_
        exact ih1 n5 hl6 _ _ h
  exact L1 n01 1 0 h01
abbrev rm_X10_judge : Room := { frames := 7, cells := 0, slots := 0, locals := 177 }
def vc_X10_judge (σ : GS) (a0 : Int) (a1 : Int) (Post : Int → GS → Prop) : Prop :=
  (rg a0) ∧
  (vc_X10_in σ a0 1 4 (fun (z2 : Int) =>
    (rg z2) ∧
  ((z2 = 0 →
    (Post (-2) σ)) ∧
  (¬ z2 = 0 →
    (vc_X10_thousandTo σ a0 (fun (z5 : Int) =>
      vc_X10_in σ a1 0 (z5 - 1) (fun (z6 : Int) =>
      (rg z6) ∧
    ((¬ z6 = 0 →
      (vc_X10_layTrial σ  (fun (σ9 : GS) =>
        ∃ I10 : Nat → Int → GS → Prop, (∃ n : Nat, I10 n 0 σ9) ∧ ∀ (n10 : Nat) (v4_10 : Int) (σ10 : GS), I10 n10 v4_10 σ10 →
      ((rg v4_10) ∧
          ((a0 ≤ v4_10 →
            (Post (-9) σ10)) ∧
          (¬ a0 ≤ v4_10 →
            (vc_X10_thousandTo σ10 ((a0 - 1) - v4_10) (fun (z13 : Int) =>
              ((0 ≤ a1 ∧ a1 ≤ 9223372036854775807) ∧ (0 < z13 ∧ z13 ≤ 9223372036854775807)) ∧
            ((0 ≤ (a1 / z13) ∧ (a1 / z13) ≤ 9223372036854775807) ∧
            ((0 ≤ ((a1 / z13) % 1000) ∧ ((a1 / z13) % 1000) ≤ 2147483647) ∧
            ((0 ≤ (((a1 / z13) % 1000) / 10) ∧ (((a1 / z13) % 1000) / 10) ≤ 2147483647) ∧
            (vc_X10_tryThing σ10 (((a1 / z13) % 1000) / 100) ((((a1 / z13) % 1000) / 10) % 10) (((a1 / z13) % 1000) % 10) (fun (z18 : Int) (σ18 : GS) =>
              (rg z18) ∧
            ((¬ z18 = 0 →
              (∃ n' : Nat, n' < n10 ∧ I10 n' (v4_10 + 1) σ18)) ∧
            (z18 = 0 →
              (Post v4_10 σ18)))))))))))))))) ∧
    (z6 = 0 →
      (Post (-2) σ))))))))))
set_option maxHeartbeats 4000000 in
set_option maxRecDepth 10000 in
theorem m_X10_judge (l : Launch) {ad : Nat → Nat} {D : va_G} {cI cZ cG : ClassId} (hI : Ij ad) {σ : GS} {a0 : Int} {a1 : Int} {Post : Int → GS → Prop} (h : vc_X10_judge σ a0 a1 Post) : Met l yX10_judge (wX yX10_judge cX10_judge 6 (some .int)) rm_X10_judge (va_Pc [.ref (ad 51), .int (iI a0), .long (lI a1)] (Wd ad D cI cZ cG σ)) (QI ad D cI cZ cG Post) 0 0 (Aw ad) := by
  refine met_V (own := RX10) hI (by decide +kernel) rfl (Nat.le_of_ble_eq_true rfl) ?_
  intro p e s m args below meth c C
  unfold vc_X10_judge at h
  show V p l e rm_X10_judge s m args below meth c ad D cI cZ cG (Aw ad) 6 0 0 (MQ below (QI ad D cI cZ cG Post) args s 0 0 (Aw ad)) σ 0 [(0, .ref (ad 51)), (1, .int (iI a0)), (2, .long (lI a1))] []
  refine x_iload_n (q := 1) (i := 1) C dX10_judge_0 rfl 1 rfl rfl ?_
  obtain ⟨o1, h⟩ := h
  refine x_i2l (q := 2) C dX10_judge_1 o1 rfl ?_
  refine x_lconst (q := 3) (z := 1) C dX10_judge_2 rfl rfl ?_
  refine x_ldc2 (q := 6) (z := 4) C dX10_judge_3 t4_205 rfl rfl ?_
  refine x_staI (q := 9) C ck_RX10_52 t4_33 (m_X10_in l hI h) ⟨⟨rfl, rfl⟩, ⟨Nat.le_of_ble_eq_true rfl, Nat.le_of_ble_eq_true rfl⟩, ⟨Nat.zero_le _, Nat.zero_le _⟩⟩ dX10_judge_6 rfl rfl (Nat.le_of_ble_eq_true rfl) rfl (fun z2 σ2 h => ?_)
  rw [h.1]
  have h := h.2
  obtain ⟨o3, h⟩ := h
  refine x_if_eq (q := 12) (tgt := 26) C dX10_judge_9 rfl o3 rfl (fun c4 => ?_) (fun c4 => ?_)
  · have h := h.1 c4
    refine x_bipush (q := 28) (z := (-2)) C dX10_judge_26 rfl rfl ?_
    exact x_iret C dX10_judge_28 h
  · have h := h.2 c4
    refine x_lload_n (q := 13) (i := 2) C dX10_judge_12 rfl 2 rfl rfl ?_
    refine x_lconst (q := 14) (z := 0) C dX10_judge_13 rfl rfl ?_
    refine x_iload_n (q := 15) (i := 1) C dX10_judge_14 rfl 1 rfl rfl ?_
    refine x_staL (q := 18) C ck_RX10_186 t4_207 (m_X10_thousandTo l hI h) ⟨⟨rfl, rfl⟩, ⟨Nat.le_of_ble_eq_true rfl, Nat.le_of_ble_eq_true rfl⟩, ⟨Nat.zero_le _, Nat.zero_le _⟩⟩ dX10_judge_15 rfl rfl (Nat.le_of_ble_eq_true rfl) rfl (fun z5 σ5 h => ?_)
    rw [h.1]
    have h := h.2
    refine x_lconst (q := 19) (z := 1) C dX10_judge_18 rfl rfl ?_
    refine x_lsub (q := 20) C dX10_judge_19  rfl ?_
    refine x_staI (q := 23) C ck_RX10_52 t4_33 (m_X10_in l hI h) ⟨⟨rfl, rfl⟩, ⟨Nat.le_of_ble_eq_true rfl, Nat.le_of_ble_eq_true rfl⟩, ⟨Nat.zero_le _, Nat.zero_le _⟩⟩ dX10_judge_20 rfl rfl (Nat.le_of_ble_eq_true rfl) rfl (fun z6 σ6 h => ?_)
    rw [h.1]
    have h := h.2
    obtain ⟨o7, h⟩ := h
    refine x_if_ne (q := 26) (tgt := 29) C dX10_judge_23 rfl o7 rfl (fun c8 => ?_) (fun c8 => ?_)
    · have h := h.1 c8
      refine x_aload_n (q := 30) (i := 0) C dX10_judge_29 rfl 0 rfl rfl ?_
      refine x_virV (q := 33) C (Nat.le_of_ble_eq_true rfl) ly_51 rfl ck_RX10_189 vk_X10_layTrial (m_X10_layTrial l hI h) ⟨⟨rfl, rfl⟩, ⟨Nat.le_of_ble_eq_true rfl, Nat.le_of_ble_eq_true rfl⟩, ⟨Nat.zero_le _, Nat.zero_le _⟩⟩ dX10_judge_30 rfl rfl (Nat.le_of_ble_eq_true rfl) rfl (fun σ9 h => ?_)
      refine x_iconst (q := 34) (z := 0) C dX10_judge_33 rfl rfl ?_
      refine x_istore (q := 36) (i := 4) (lv' := [(0, .ref (ad 51)), (1, .int (iI a0)), (2, .long (lI a1)), (4, .int (iI 0))]) C dX10_judge_34 (Nat.le_of_ble_eq_true rfl) [1, 2, 3, 0] rfl rfl ?_
      obtain ⟨I10, ⟨n010, h010⟩, hs10⟩ := h
      have L10 : ∀ (n10 : Nat) (v4_10 : Int) (σ10 : GS), I10 n10 v4_10 σ10 → V p l e rm_X10_judge s m args below meth c ad D cI cZ cG (Aw ad) 6 0 0 (MQ below (QI ad D cI cZ cG Post) args s 0 0 (Aw ad)) σ10 36 [(0, .ref (ad 51)), (1, .int (iI a0)), (2, .long (lI a1)), (4, .int (iI v4_10))] [] := by
        intro n10
        induction n10 using Nat.strongRecOn with
        | ind n10 ih10 =>
          intro v4_10 σ10 h
          have h := hs10 n10 v4_10 σ10 h
          refine x_iload (q := 38) C dX10_judge_36 3 rfl rfl ?_
          refine x_iload_n (q := 39) (i := 1) C dX10_judge_38 rfl 1 rfl rfl ?_
          obtain ⟨o11, h⟩ := h
          refine x_icmp_ge (q := 42) (tgt := 94) C dX10_judge_39 rfl ⟨o11, o1⟩ rfl (fun c12 => ?_) (fun c12 => ?_)
          · have h := h.1 c12
            refine x_bipush (q := 96) (z := (-9)) C dX10_judge_94 rfl rfl ?_
            exact x_iret C dX10_judge_96 h
          · have h := h.2 c12
            refine x_lload_n (q := 43) (i := 2) C dX10_judge_42 rfl 2 rfl rfl ?_
            refine x_iload_n (q := 44) (i := 1) C dX10_judge_43 rfl 1 rfl rfl ?_
            refine x_iconst (q := 45) (z := 1) C dX10_judge_44 rfl rfl ?_
            refine x_isub (q := 46) C dX10_judge_45  rfl ?_
            refine x_iload (q := 48) C dX10_judge_46 3 rfl rfl ?_
            refine x_isub (q := 49) C dX10_judge_48  rfl ?_
            refine x_staL (q := 52) C ck_RX10_186 t4_207 (m_X10_thousandTo l hI h) ⟨⟨rfl, rfl⟩, ⟨Nat.le_of_ble_eq_true rfl, Nat.le_of_ble_eq_true rfl⟩, ⟨Nat.zero_le _, Nat.zero_le _⟩⟩ dX10_judge_49 rfl rfl (Nat.le_of_ble_eq_true rfl) rfl (fun z13 σ13 h => ?_)
            rw [h.1]
            have h := h.2
            obtain ⟨o14, h⟩ := h
            refine x_ldiv (q := 53) C dX10_judge_52 o14 rfl ?_
            refine x_ldc2 (q := 56) (z := 1000) C dX10_judge_53 t4_209 rfl rfl ?_
            obtain ⟨o15, h⟩ := h
            refine x_lrem (q := 57) C dX10_judge_56 ⟨o15, by decide⟩ rfl ?_
            refine x_l2i (q := 58) C dX10_judge_57  rfl ?_
            refine x_istore (q := 60) (i := 5) (lv' := [(0, .ref (ad 51)), (1, .int (iI a0)), (2, .long (lI a1)), (4, .int (iI v4_10)), (5, .int (iI ((a1 / z13) % 1000)))]) C dX10_judge_58 (Nat.le_of_ble_eq_true rfl) [1, 2, 3, 4, 0] rfl rfl ?_
            refine x_aload_n (q := 61) (i := 0) C dX10_judge_60 rfl 0 rfl rfl ?_
            refine x_iload (q := 63) C dX10_judge_61 4 rfl rfl ?_
            refine x_bipush (q := 65) (z := 100) C dX10_judge_63 rfl rfl ?_
            obtain ⟨o16, h⟩ := h
            refine x_idiv (q := 66) C dX10_judge_65 ⟨o16, by decide⟩ rfl ?_
            refine x_iload (q := 68) C dX10_judge_66 4 rfl rfl ?_
            refine x_bipush (q := 70) (z := 10) C dX10_judge_68 rfl rfl ?_
            refine x_idiv (q := 71) C dX10_judge_70 ⟨o16, by decide⟩ rfl ?_
            refine x_bipush (q := 73) (z := 10) C dX10_judge_71 rfl rfl ?_
            obtain ⟨o17, h⟩ := h
            refine x_irem (q := 74) C dX10_judge_73 ⟨o17, by decide⟩ rfl ?_
            refine x_iload (q := 76) C dX10_judge_74 4 rfl rfl ?_
            refine x_bipush (q := 78) (z := 10) C dX10_judge_76 rfl rfl ?_
            refine x_irem (q := 79) C dX10_judge_78 ⟨o16, by decide⟩ rfl ?_
            refine x_virI (q := 82) C (Nat.le_of_ble_eq_true rfl) ly_51 rfl ck_RX10_192 vk_X10_tryThing (m_X10_tryThing l hI h) ⟨⟨rfl, rfl⟩, ⟨Nat.le_of_ble_eq_true rfl, Nat.le_of_ble_eq_true rfl⟩, ⟨Nat.zero_le _, Nat.zero_le _⟩⟩ dX10_judge_79 rfl rfl (Nat.le_of_ble_eq_true rfl) rfl (fun z18 σ18 h => ?_)
            obtain ⟨o19, h⟩ := h
            refine x_if_ne (q := 85) (tgt := 88) C dX10_judge_82 rfl o19 rfl (fun c20 => ?_) (fun c20 => ?_)
            · have h := h.1 c20
              refine x_iinc (q := 91) (z' := v4_10 + 1) (lv' := [(0, .ref (ad 51)), (1, .int (iI a0)), (2, .long (lI a1)), (4, .int (iI (v4_10 + 1))), (5, .int (iI ((a1 / z13) % 1000)))]) C dX10_judge_88 3 rfl rfl (Nat.le_of_ble_eq_true rfl) [1, 2, 3, 0, 4] rfl rfl ?_
              refine x_goto (tgt := 36) C dX10_judge_91 rfl ?_
              obtain ⟨n21, hl22, h⟩ := h
              refine x_sub [0, 1, 2, 3] rfl ?_
              exact ih10 n21 hl22 _ _ h
            · have h := h.2 c20
              refine x_iload (q := 87) C dX10_judge_85 3 rfl rfl ?_
              exact x_iret C dX10_judge_87 h
      exact L10 n010 0 σ9 h010
    · have h := h.2 c8
      refine x_bipush (q := 28) (z := (-2)) C dX10_judge_26 rfl rfl ?_
      exact x_iret C dX10_judge_28 h
abbrev rm_X10_spy : Room := { frames := 1, cells := 0, slots := 0, locals := 25 }
def vc_X10_spy (σ : GS) (a0 : Int) (a1 : Int) (a2 : Int) (Post : Int → GS → Prop) : Prop :=
  (rg a0) ∧
  (vc_X10_in σ a0 0 27 (fun (z2 : Int) =>
    (rg z2) ∧
  ((¬ z2 = 0 →
    ((rg a1) ∧
    (vc_X10_in σ a1 97 122 (fun (z6 : Int) =>
      (rg z6) ∧
    ((z6 = 0 →
      (Post (-2) σ)) ∧
    (¬ z6 = 0 →
      ((rg a2) ∧
      (vc_X10_in σ a2 0 1 (fun (z10 : Int) =>
        (rg z10) ∧
      ((¬ z10 = 0 →
        ((rg (σ 51 14)) ∧
        ((¬ (σ 51 14) = 6 →
          ((0 ≤ (σ 51 14) ∧ (σ 51 14) < 6) ∧
          ((0 ≤ ((up2 σ 60 (σ 51 14).toNat a0) 51 14) ∧ ((up2 σ 60 (σ 51 14).toNat a0) 51 14) < 6) ∧
          ((0 ≤ ((up2 (up2 σ 60 (σ 51 14).toNat a0) 61 ((up2 σ 60 (σ 51 14).toNat a0) 51 14).toNat (a1 - 97)) 51 14) ∧ ((up2 (up2 σ 60 (σ 51 14).toNat a0) 61 ((up2 σ 60 (σ 51 14).toNat a0) 51 14).toNat (a1 - 97)) 51 14) < 6) ∧
          (Post ((up2 (up2 (up2 (up2 σ 60 (σ 51 14).toNat a0) 61 ((up2 σ 60 (σ 51 14).toNat a0) 51 14).toNat (a1 - 97)) 62 ((up2 (up2 σ 60 (σ 51 14).toNat a0) 61 ((up2 σ 60 (σ 51 14).toNat a0) 51 14).toNat (a1 - 97)) 51 14).toNat a2) 51 14 (((up2 (up2 (up2 σ 60 (σ 51 14).toNat a0) 61 ((up2 σ 60 (σ 51 14).toNat a0) 51 14).toNat (a1 - 97)) 62 ((up2 (up2 σ 60 (σ 51 14).toNat a0) 61 ((up2 σ 60 (σ 51 14).toNat a0) 51 14).toNat (a1 - 97)) 51 14).toNat a2) 51 14) + 1)) 51 14) (up2 (up2 (up2 (up2 σ 60 (σ 51 14).toNat a0) 61 ((up2 σ 60 (σ 51 14).toNat a0) 51 14).toNat (a1 - 97)) 62 ((up2 (up2 σ 60 (σ 51 14).toNat a0) 61 ((up2 σ 60 (σ 51 14).toNat a0) 51 14).toNat (a1 - 97)) 51 14).toNat a2) 51 14 (((up2 (up2 (up2 σ 60 (σ 51 14).toNat a0) 61 ((up2 σ 60 (σ 51 14).toNat a0) 51 14).toNat (a1 - 97)) 62 ((up2 (up2 σ 60 (σ 51 14).toNat a0) 61 ((up2 σ 60 (σ 51 14).toNat a0) 51 14).toNat (a1 - 97)) 51 14).toNat a2) 51 14) + 1))))))) ∧
        ((σ 51 14) = 6 →
          (Post (-4) σ))))) ∧
      (z10 = 0 →
        (Post (-2) σ)))))))))))) ∧
  (z2 = 0 →
    (Post (-1) σ)))))
set_option maxHeartbeats 4000000 in
set_option maxRecDepth 10000 in
theorem m_X10_spy (l : Launch) {ad : Nat → Nat} {D : va_G} {cI cZ cG : ClassId} (hI : Ij ad) {σ : GS} {a0 : Int} {a1 : Int} {a2 : Int} {Post : Int → GS → Prop} (h : vc_X10_spy σ a0 a1 a2 Post) : Met l yX10_spy (wX yX10_spy cX10_spy 4 (some .int)) rm_X10_spy (va_Pc [.ref (ad 51), .int (iI a0), .int (iI a1), .int (iI a2)] (Wd ad D cI cZ cG σ)) (QI ad D cI cZ cG Post) 0 0 (Aw ad) := by
  refine met_V (own := RX10) hI (by decide +kernel) rfl (Nat.le_of_ble_eq_true rfl) ?_
  intro p e s m args below meth c C
  unfold vc_X10_spy at h
  show V p l e rm_X10_spy s m args below meth c ad D cI cZ cG (Aw ad) 4 0 0 (MQ below (QI ad D cI cZ cG Post) args s 0 0 (Aw ad)) σ 0 [(0, .ref (ad 51)), (1, .int (iI a0)), (2, .int (iI a1)), (3, .int (iI a2))] []
  refine x_iload_n (q := 1) (i := 1) C dX10_spy_0 rfl 1 rfl rfl ?_
  obtain ⟨o1, h⟩ := h
  refine x_i2l (q := 2) C dX10_spy_1 o1 rfl ?_
  refine x_lconst (q := 3) (z := 0) C dX10_spy_2 rfl rfl ?_
  refine x_ldc2 (q := 6) (z := 27) C dX10_spy_3 t4_108 rfl rfl ?_
  refine x_staI (q := 9) C ck_RX10_52 t4_33 (m_X10_in l hI h) ⟨⟨rfl, rfl⟩, ⟨Nat.le_of_ble_eq_true rfl, Nat.le_of_ble_eq_true rfl⟩, ⟨Nat.zero_le _, Nat.zero_le _⟩⟩ dX10_spy_6 rfl rfl (Nat.le_of_ble_eq_true rfl) rfl (fun z2 σ2 h => ?_)
  rw [h.1]
  have h := h.2
  obtain ⟨o3, h⟩ := h
  refine x_if_ne (q := 12) (tgt := 14) C dX10_spy_9 rfl o3 rfl (fun c4 => ?_) (fun c4 => ?_)
  · have h := h.1 c4
    refine x_iload_n (q := 15) (i := 2) C dX10_spy_14 rfl 2 rfl rfl ?_
    obtain ⟨o5, h⟩ := h
    refine x_i2l (q := 16) C dX10_spy_15 o5 rfl ?_
    refine x_ldc2 (q := 19) (z := 97) C dX10_spy_16 t4_49 rfl rfl ?_
    refine x_ldc2 (q := 22) (z := 122) C dX10_spy_19 t4_50 rfl rfl ?_
    refine x_staI (q := 25) C ck_RX10_52 t4_33 (m_X10_in l hI h) ⟨⟨rfl, rfl⟩, ⟨Nat.le_of_ble_eq_true rfl, Nat.le_of_ble_eq_true rfl⟩, ⟨Nat.zero_le _, Nat.zero_le _⟩⟩ dX10_spy_22 rfl rfl (Nat.le_of_ble_eq_true rfl) rfl (fun z6 σ6 h => ?_)
    rw [h.1]
    have h := h.2
    obtain ⟨o7, h⟩ := h
    refine x_if_eq (q := 28) (tgt := 38) C dX10_spy_25 rfl o7 rfl (fun c8 => ?_) (fun c8 => ?_)
    · have h := h.1 c8
      refine x_bipush (q := 40) (z := (-2)) C dX10_spy_38 rfl rfl ?_
      exact x_iret C dX10_spy_40 h
    · have h := h.2 c8
      refine x_iload_n (q := 29) (i := 3) C dX10_spy_28 rfl 3 rfl rfl ?_
      obtain ⟨o9, h⟩ := h
      refine x_i2l (q := 30) C dX10_spy_29 o9 rfl ?_
      refine x_lconst (q := 31) (z := 0) C dX10_spy_30 rfl rfl ?_
      refine x_lconst (q := 32) (z := 1) C dX10_spy_31 rfl rfl ?_
      refine x_staI (q := 35) C ck_RX10_52 t4_33 (m_X10_in l hI h) ⟨⟨rfl, rfl⟩, ⟨Nat.le_of_ble_eq_true rfl, Nat.le_of_ble_eq_true rfl⟩, ⟨Nat.zero_le _, Nat.zero_le _⟩⟩ dX10_spy_32 rfl rfl (Nat.le_of_ble_eq_true rfl) rfl (fun z10 σ10 h => ?_)
      rw [h.1]
      have h := h.2
      obtain ⟨o11, h⟩ := h
      refine x_if_ne (q := 38) (tgt := 41) C dX10_spy_35 rfl o11 rfl (fun c12 => ?_) (fun c12 => ?_)
      · have h := h.1 c12
        refine x_aload_n (q := 42) (i := 0) C dX10_spy_41 rfl 0 rfl rfl ?_
        refine x_getI (q := 45) C (Nat.le_of_ble_eq_true rfl) ly_51 fk_RX10_196 rfl dX10_spy_42 rfl ?_
        refine x_bipush (q := 47) (z := 6) C dX10_spy_45 rfl rfl ?_
        obtain ⟨o13, h⟩ := h
        refine x_icmp_ne (q := 50) (tgt := 53) C dX10_spy_47 rfl ⟨o13, by decide⟩ rfl (fun c14 => ?_) (fun c14 => ?_)
        · have h := h.1 c14
          refine x_aload_n (q := 54) (i := 0) C dX10_spy_53 rfl 0 rfl rfl ?_
          refine x_getR (q := 57) (c0 := 60) C (Nat.le_of_ble_eq_true rfl) ly_51 fk_RX10_34 rfl dX10_spy_54 rfl ?_
          refine x_aload_n (q := 58) (i := 0) C dX10_spy_57 rfl 0 rfl rfl ?_
          refine x_getI (q := 61) C (Nat.le_of_ble_eq_true rfl) ly_51 fk_RX10_196 rfl dX10_spy_58 rfl ?_
          refine x_iload_n (q := 62) (i := 1) C dX10_spy_61 rfl 1 rfl rfl ?_
          obtain ⟨o15, h⟩ := h
          refine x_iast (q := 63) C (Nat.le_of_ble_eq_true rfl) ly_60 dX10_spy_62 (ix o15 rfl) (Nat.le_of_ble_eq_true rfl)  rfl ?_
          refine x_aload_n (q := 64) (i := 0) C dX10_spy_63 rfl 0 rfl rfl ?_
          refine x_getR (q := 67) (c0 := 61) C (Nat.le_of_ble_eq_true rfl) ly_51 fk_RX10_37 rfl dX10_spy_64 rfl ?_
          refine x_aload_n (q := 68) (i := 0) C dX10_spy_67 rfl 0 rfl rfl ?_
          refine x_getI (q := 71) C (Nat.le_of_ble_eq_true rfl) ly_51 fk_RX10_196 rfl dX10_spy_68 rfl ?_
          refine x_iload_n (q := 72) (i := 2) C dX10_spy_71 rfl 2 rfl rfl ?_
          refine x_bipush (q := 74) (z := 97) C dX10_spy_72 rfl rfl ?_
          refine x_isub (q := 75) C dX10_spy_74  rfl ?_
          obtain ⟨o16, h⟩ := h
          refine x_iast (q := 76) C (Nat.le_of_ble_eq_true rfl) ly_61 dX10_spy_75 (ix o16 rfl) (Nat.le_of_ble_eq_true rfl)  rfl ?_
          refine x_aload_n (q := 77) (i := 0) C dX10_spy_76 rfl 0 rfl rfl ?_
          refine x_getR (q := 80) (c0 := 62) C (Nat.le_of_ble_eq_true rfl) ly_51 fk_RX10_40 rfl dX10_spy_77 rfl ?_
          refine x_aload_n (q := 81) (i := 0) C dX10_spy_80 rfl 0 rfl rfl ?_
          refine x_getI (q := 84) C (Nat.le_of_ble_eq_true rfl) ly_51 fk_RX10_196 rfl dX10_spy_81 rfl ?_
          refine x_iload_n (q := 85) (i := 3) C dX10_spy_84 rfl 3 rfl rfl ?_
          obtain ⟨o17, h⟩ := h
          refine x_iast (q := 86) C (Nat.le_of_ble_eq_true rfl) ly_62 dX10_spy_85 (ix o17 rfl) (Nat.le_of_ble_eq_true rfl)  rfl ?_
          refine x_aload_n (q := 87) (i := 0) C dX10_spy_86 rfl 0 rfl rfl ?_
          refine x_dup (q := 88) C dX10_spy_87 rfl rfl ?_
          refine x_getI (q := 91) C (Nat.le_of_ble_eq_true rfl) ly_51 fk_RX10_196 rfl dX10_spy_88 rfl ?_
          refine x_iconst (q := 92) (z := 1) C dX10_spy_91 rfl rfl ?_
          refine x_iadd (q := 93) C dX10_spy_92  rfl ?_
          refine x_putI (q := 96) C (Nat.le_of_ble_eq_true rfl) ly_51 fk_RX10_196 rfl tyX10 tyX10_ok nmX10 rfl (tyX10_ok 14 (Nat.le_of_ble_eq_true rfl)) dX10_spy_93 rfl ?_
          refine x_aload_n (q := 97) (i := 0) C dX10_spy_96 rfl 0 rfl rfl ?_
          refine x_getI (q := 100) C (Nat.le_of_ble_eq_true rfl) ly_51 fk_RX10_196 rfl dX10_spy_97 rfl ?_
          exact x_iret C dX10_spy_100 h
        · have h := h.2 c14
          refine x_bipush (q := 52) (z := (-4)) C dX10_spy_50 rfl rfl ?_
          exact x_iret C dX10_spy_52 h
      · have h := h.2 c12
        refine x_bipush (q := 40) (z := (-2)) C dX10_spy_38 rfl rfl ?_
        exact x_iret C dX10_spy_40 h
  · have h := h.2 c4
    refine x_iconst (q := 13) (z := (-1)) C dX10_spy_12 rfl rfl ?_
    exact x_iret C dX10_spy_13 h
abbrev rm_X10_unspy : Room := { frames := 0, cells := 0, slots := 0, locals := 0 }
def vc_X10_unspy (σ : GS)  (Post : Int → GS → Prop) : Prop :=
  Post (σ 51 14) (up2 σ 51 14 0)
set_option maxHeartbeats 4000000 in
set_option maxRecDepth 10000 in
theorem m_X10_unspy (l : Launch) {ad : Nat → Nat} {D : va_G} {cI cZ cG : ClassId} (hI : Ij ad) {σ : GS}  {Post : Int → GS → Prop} (h : vc_X10_unspy σ  Post) : Met l yX10_unspy (wX yX10_unspy cX10_unspy 2 (some .int)) rm_X10_unspy (va_Pc [.ref (ad 51)] (Wd ad D cI cZ cG σ)) (QI ad D cI cZ cG Post) 0 0 (Aw ad) := by
  refine met_V (own := RX10) hI (by decide +kernel) rfl (Nat.le_of_ble_eq_true rfl) ?_
  intro p e s m args below meth c C
  unfold vc_X10_unspy at h
  show V p l e rm_X10_unspy s m args below meth c ad D cI cZ cG (Aw ad) 2 0 0 (MQ below (QI ad D cI cZ cG Post) args s 0 0 (Aw ad)) σ 0 [(0, .ref (ad 51))] []
  refine x_aload_n (q := 1) (i := 0) C dX10_unspy_0 rfl 0 rfl rfl ?_
  refine x_getI (q := 4) C (Nat.le_of_ble_eq_true rfl) ly_51 fk_RX10_196 rfl dX10_unspy_1 rfl ?_
  refine x_istore_n (q := 5) (i := 1) (lv' := [(0, .ref (ad 51)), (1, .int (iI (σ 51 14)))]) C dX10_unspy_4 rfl (Nat.le_of_ble_eq_true rfl) [1, 0] rfl rfl ?_
  refine x_aload_n (q := 6) (i := 0) C dX10_unspy_5 rfl 0 rfl rfl ?_
  refine x_iconst (q := 7) (z := 0) C dX10_unspy_6 rfl rfl ?_
  refine x_putI (q := 10) C (Nat.le_of_ble_eq_true rfl) ly_51 fk_RX10_196 rfl tyX10 tyX10_ok nmX10 rfl (tyX10_ok 14 (Nat.le_of_ble_eq_true rfl)) dX10_unspy_7 rfl ?_
  refine x_iload_n (q := 11) (i := 1) C dX10_unspy_10 rfl 1 rfl rfl ?_
  exact x_iret C dX10_unspy_11 h
abbrev rm_X10_mayBe : Room := { frames := 4, cells := 0, slots := 0, locals := 101 }
def vc_X10_mayBe (σ : GS)  (Post : Int → Prop) : Prop :=
  ∃ I1 : Nat → Int → Int → Prop, (∃ n : Nat, I1 n 1 0) ∧ ∀ (n1 : Nat) (v1_1 : Int) (v2_1 : Int), I1 n1 v1_1 v2_1 →
  ((rg v2_1) ∧
      ((rg (σ 51 14)) ∧
      (((σ 51 14) ≤ v2_1 →
        ((v1_1 = 0 ∨ v1_1 = 1) ∧
        (Post v1_1))) ∧
      (¬ (σ 51 14) ≤ v2_1 →
        ((rg v1_1) ∧
        ((v1_1 = 0 →
          (∃ n' : Nat, n' < n1 ∧ I1 n' 0 (v2_1 + 1))) ∧
        (¬ v1_1 = 0 →
          ((0 ≤ v2_1 ∧ v2_1 < 6) ∧
          (vc_X10_letterAt σ 1 63 (σ 60 v2_1.toNat) 0 (fun (z11 : Int) =>
            (rg z11) ∧
          ((rg (σ 61 v2_1.toNat)) ∧
          ((¬ z11 = (σ 61 v2_1.toNat) →
            ((rg (σ 62 v2_1.toNat)) ∧
            ((¬ (σ 62 v2_1.toNat) = 1 →
              ((¬ (0 : Int) = 0 →
                (∃ n' : Nat, n' < n1 ∧ I1 n' 0 (v2_1 + 1))) ∧
              ((0 : Int) = 0 →
                (∃ n' : Nat, n' < n1 ∧ I1 n' 1 (v2_1 + 1))))) ∧
            ((σ 62 v2_1.toNat) = 1 →
              ((¬ (0 : Int) = 1 →
                (∃ n' : Nat, n' < n1 ∧ I1 n' 0 (v2_1 + 1))) ∧
              ((0 : Int) = 1 →
                (∃ n' : Nat, n' < n1 ∧ I1 n' 1 (v2_1 + 1)))))))) ∧
          (z11 = (σ 61 v2_1.toNat) →
            ((rg (σ 62 v2_1.toNat)) ∧
            ((¬ (σ 62 v2_1.toNat) = 1 →
              ((¬ (1 : Int) = 0 →
                (∃ n' : Nat, n' < n1 ∧ I1 n' 0 (v2_1 + 1))) ∧
              ((1 : Int) = 0 →
                (∃ n' : Nat, n' < n1 ∧ I1 n' 1 (v2_1 + 1))))) ∧
            ((σ 62 v2_1.toNat) = 1 →
              ((¬ (1 : Int) = 1 →
                (∃ n' : Nat, n' < n1 ∧ I1 n' 0 (v2_1 + 1))) ∧
              ((1 : Int) = 1 →
                (∃ n' : Nat, n' < n1 ∧ I1 n' 1 (v2_1 + 1))))))))))))))))))))
set_option maxHeartbeats 4000000 in
set_option maxRecDepth 10000 in
theorem m_X10_mayBe (l : Launch) {ad : Nat → Nat} {D : va_G} {cI cZ cG : ClassId} (hI : Ij ad) {σ : GS}  {Post : Int → Prop} (h : vc_X10_mayBe σ  Post) : Met l yX10_mayBe (wX yX10_mayBe cX10_mayBe 3 (some .boolean)) rm_X10_mayBe (va_Pc [.ref (ad 51)] (Wd ad D cI cZ cG σ)) (QI ad D cI cZ cG (fun z u => u = σ ∧ Post z)) 0 0 (Aw ad) := by
  refine met_V (own := RX10) hI (by decide +kernel) rfl (Nat.le_of_ble_eq_true rfl) ?_
  intro p e s m args below meth c C
  unfold vc_X10_mayBe at h
  show V p l e rm_X10_mayBe s m args below meth c ad D cI cZ cG (Aw ad) 3 0 0 (MQ below (QI ad D cI cZ cG (fun z u => u = σ ∧ Post z)) args s 0 0 (Aw ad)) σ 0 [(0, .ref (ad 51))] []
  refine x_iconst (q := 1) (z := 1) C dX10_mayBe_0 rfl rfl ?_
  refine x_istore_n (q := 2) (i := 1) (lv' := [(0, .ref (ad 51)), (1, .int (iI 1))]) C dX10_mayBe_1 rfl (Nat.le_of_ble_eq_true rfl) [1, 0] rfl rfl ?_
  refine x_iconst (q := 3) (z := 0) C dX10_mayBe_2 rfl rfl ?_
  refine x_istore_n (q := 4) (i := 2) (lv' := [(0, .ref (ad 51)), (1, .int (iI 1)), (2, .int (iI 0))]) C dX10_mayBe_3 rfl (Nat.le_of_ble_eq_true rfl) [1, 2, 0] rfl rfl ?_
  obtain ⟨I1, ⟨n01, h01⟩, hs1⟩ := h
  have L1 : ∀ (n1 : Nat) (v1_1 : Int) (v2_1 : Int), I1 n1 v1_1 v2_1 → V p l e rm_X10_mayBe s m args below meth c ad D cI cZ cG (Aw ad) 3 0 0 (MQ below (QI ad D cI cZ cG (fun z u => u = σ ∧ Post z)) args s 0 0 (Aw ad)) σ 4 [(0, .ref (ad 51)), (1, .int (iI v1_1)), (2, .int (iI v2_1))] [] := by
    intro n1
    induction n1 using Nat.strongRecOn with
    | ind n1 ih1 =>
      intro v1_1 v2_1 h
      have h := hs1 n1 v1_1 v2_1 h
      refine x_iload_n (q := 5) (i := 2) C dX10_mayBe_4 rfl 2 rfl rfl ?_
      refine x_aload_n (q := 6) (i := 0) C dX10_mayBe_5 rfl 0 rfl rfl ?_
      refine x_getI (q := 9) C (Nat.le_of_ble_eq_true rfl) ly_51 fk_RX10_196 rfl dX10_mayBe_6 rfl ?_
      obtain ⟨o2, h⟩ := h
      obtain ⟨o3, h⟩ := h
      refine x_icmp_ge (q := 12) (tgt := 74) C dX10_mayBe_9 rfl ⟨o2, o3⟩ rfl (fun c4 => ?_) (fun c4 => ?_)
      · have h := h.1 c4
        refine x_iload_n (q := 75) (i := 1) C dX10_mayBe_74 rfl 1 rfl rfl ?_
        obtain ⟨o5, h⟩ := h
        exact x_zret C dX10_mayBe_75 o5 ⟨rfl, h⟩
      · have h := h.2 c4
        refine x_iload_n (q := 13) (i := 1) C dX10_mayBe_12 rfl 1 rfl rfl ?_
        obtain ⟨o6, h⟩ := h
        refine x_if_eq (q := 16) (tgt := 66) C dX10_mayBe_13 rfl o6 rfl (fun c7 => ?_) (fun c7 => ?_)
        · have h := h.1 c7
          refine x_iconst (q := 67) (z := 0) C dX10_mayBe_66 rfl rfl ?_
          refine x_istore_n (q := 68) (i := 1) (lv' := [(0, .ref (ad 51)), (1, .int (iI 0)), (2, .int (iI v2_1))]) C dX10_mayBe_67 rfl (Nat.le_of_ble_eq_true rfl) [1, 0, 2] rfl rfl ?_
          refine x_iinc (q := 71) (z' := v2_1 + 1) (lv' := [(0, .ref (ad 51)), (1, .int (iI 0)), (2, .int (iI (v2_1 + 1)))]) C dX10_mayBe_68 2 rfl rfl (Nat.le_of_ble_eq_true rfl) [1, 2, 0] rfl rfl ?_
          refine x_goto (tgt := 4) C dX10_mayBe_71 rfl ?_
          obtain ⟨n8, hl9, h⟩ := h
          refine x_sub [0, 1, 2] rfl ?_
          exact ih1 n8 hl9 _ _ h
        · have h := h.2 c7
          refine x_aload_n (q := 17) (i := 0) C dX10_mayBe_16 rfl 0 rfl rfl ?_
          refine x_iconst (q := 18) (z := 1) C dX10_mayBe_17 rfl rfl ?_
          refine x_bipush (q := 20) (z := 63) C dX10_mayBe_18 rfl rfl ?_
          refine x_aload_n (q := 21) (i := 0) C dX10_mayBe_20 rfl 0 rfl rfl ?_
          refine x_getR (q := 24) (c0 := 60) C (Nat.le_of_ble_eq_true rfl) ly_51 fk_RX10_34 rfl dX10_mayBe_21 rfl ?_
          refine x_iload_n (q := 25) (i := 2) C dX10_mayBe_24 rfl 2 rfl rfl ?_
          obtain ⟨o10, h⟩ := h
          refine x_iald (q := 26) C (Nat.le_of_ble_eq_true rfl) ly_60 dX10_mayBe_25 (ix o10 rfl) (Nat.le_of_ble_eq_true rfl) rfl ?_
          refine x_iconst (q := 27) (z := 0) C dX10_mayBe_26 rfl rfl ?_
          refine x_virI (q := 30) C (Nat.le_of_ble_eq_true rfl) ly_51 rfl ck_RX10_119 vk_X10_letterAt (m_X10_letterAt l hI h) ⟨⟨rfl, rfl⟩, ⟨Nat.le_of_ble_eq_true rfl, Nat.le_of_ble_eq_true rfl⟩, ⟨Nat.zero_le _, Nat.zero_le _⟩⟩ dX10_mayBe_27 rfl rfl (Nat.le_of_ble_eq_true rfl) rfl (fun z11 σ11 h => ?_)
          rw [h.1]
          have h := h.2
          refine x_aload_n (q := 31) (i := 0) C dX10_mayBe_30 rfl 0 rfl rfl ?_
          refine x_getR (q := 34) (c0 := 61) C (Nat.le_of_ble_eq_true rfl) ly_51 fk_RX10_37 rfl dX10_mayBe_31 rfl ?_
          refine x_iload_n (q := 35) (i := 2) C dX10_mayBe_34 rfl 2 rfl rfl ?_
          refine x_iald (q := 36) C (Nat.le_of_ble_eq_true rfl) ly_61 dX10_mayBe_35 (ix o10 rfl) (Nat.le_of_ble_eq_true rfl) rfl ?_
          obtain ⟨o12, h⟩ := h
          obtain ⟨o13, h⟩ := h
          refine x_icmp_ne (q := 39) (tgt := 43) C dX10_mayBe_36 rfl ⟨o12, o13⟩ rfl (fun c14 => ?_) (fun c14 => ?_)
          · have h := h.1 c14
            refine x_iconst (q := 44) (z := 0) C dX10_mayBe_43 rfl rfl ?_
            refine x_aload_n (q := 45) (i := 0) C dX10_mayBe_44 rfl 0 rfl rfl ?_
            refine x_getR (q := 48) (c0 := 62) C (Nat.le_of_ble_eq_true rfl) ly_51 fk_RX10_40 rfl dX10_mayBe_45 rfl ?_
            refine x_iload_n (q := 49) (i := 2) C dX10_mayBe_48 rfl 2 rfl rfl ?_
            refine x_iald (q := 50) C (Nat.le_of_ble_eq_true rfl) ly_62 dX10_mayBe_49 (ix o10 rfl) (Nat.le_of_ble_eq_true rfl) rfl ?_
            refine x_iconst (q := 51) (z := 1) C dX10_mayBe_50 rfl rfl ?_
            obtain ⟨o15, h⟩ := h
            refine x_icmp_ne (q := 54) (tgt := 58) C dX10_mayBe_51 rfl ⟨o15, by decide⟩ rfl (fun c16 => ?_) (fun c16 => ?_)
            · have h := h.1 c16
              refine x_iconst (q := 59) (z := 0) C dX10_mayBe_58 rfl rfl ?_
              refine x_icmp_ne (q := 62) (tgt := 66) C dX10_mayBe_59 rfl ⟨by decide, by decide⟩ rfl (fun c17 => ?_) (fun c17 => ?_)
              · have h := h.1 c17
                refine x_iconst (q := 67) (z := 0) C dX10_mayBe_66 rfl rfl ?_
                refine x_istore_n (q := 68) (i := 1) (lv' := [(0, .ref (ad 51)), (1, .int (iI 0)), (2, .int (iI v2_1))]) C dX10_mayBe_67 rfl (Nat.le_of_ble_eq_true rfl) [1, 0, 2] rfl rfl ?_
                refine x_iinc (q := 71) (z' := v2_1 + 1) (lv' := [(0, .ref (ad 51)), (1, .int (iI 0)), (2, .int (iI (v2_1 + 1)))]) C dX10_mayBe_68 2 rfl rfl (Nat.le_of_ble_eq_true rfl) [1, 2, 0] rfl rfl ?_
                refine x_goto (tgt := 4) C dX10_mayBe_71 rfl ?_
                obtain ⟨n18, hl19, h⟩ := h
                refine x_sub [0, 1, 2] rfl ?_
                exact ih1 n18 hl19 _ _ h
              · have h := h.2 c17
                refine x_iconst (q := 63) (z := 1) C dX10_mayBe_62 rfl rfl ?_
                refine x_goto (tgt := 67) C dX10_mayBe_63 rfl ?_
                refine x_istore_n (q := 68) (i := 1) (lv' := [(0, .ref (ad 51)), (1, .int (iI 1)), (2, .int (iI v2_1))]) C dX10_mayBe_67 rfl (Nat.le_of_ble_eq_true rfl) [1, 0, 2] rfl rfl ?_
                refine x_iinc (q := 71) (z' := v2_1 + 1) (lv' := [(0, .ref (ad 51)), (1, .int (iI 1)), (2, .int (iI (v2_1 + 1)))]) C dX10_mayBe_68 2 rfl rfl (Nat.le_of_ble_eq_true rfl) [1, 2, 0] rfl rfl ?_
                refine x_goto (tgt := 4) C dX10_mayBe_71 rfl ?_
                obtain ⟨n20, hl21, h⟩ := h
                refine x_sub [0, 1, 2] rfl ?_
                exact ih1 n20 hl21 _ _ h
            · have h := h.2 c16
              refine x_iconst (q := 55) (z := 1) C dX10_mayBe_54 rfl rfl ?_
              refine x_goto (tgt := 59) C dX10_mayBe_55 rfl ?_
              refine x_icmp_ne (q := 62) (tgt := 66) C dX10_mayBe_59 rfl ⟨by decide, by decide⟩ rfl (fun c22 => ?_) (fun c22 => ?_)
              · have h := h.1 c22
                refine x_iconst (q := 67) (z := 0) C dX10_mayBe_66 rfl rfl ?_
                refine x_istore_n (q := 68) (i := 1) (lv' := [(0, .ref (ad 51)), (1, .int (iI 0)), (2, .int (iI v2_1))]) C dX10_mayBe_67 rfl (Nat.le_of_ble_eq_true rfl) [1, 0, 2] rfl rfl ?_
                refine x_iinc (q := 71) (z' := v2_1 + 1) (lv' := [(0, .ref (ad 51)), (1, .int (iI 0)), (2, .int (iI (v2_1 + 1)))]) C dX10_mayBe_68 2 rfl rfl (Nat.le_of_ble_eq_true rfl) [1, 2, 0] rfl rfl ?_
                refine x_goto (tgt := 4) C dX10_mayBe_71 rfl ?_
                obtain ⟨n23, hl24, h⟩ := h
                refine x_sub [0, 1, 2] rfl ?_
                exact ih1 n23 hl24 _ _ h
              · have h := h.2 c22
                refine x_iconst (q := 63) (z := 1) C dX10_mayBe_62 rfl rfl ?_
                refine x_goto (tgt := 67) C dX10_mayBe_63 rfl ?_
                refine x_istore_n (q := 68) (i := 1) (lv' := [(0, .ref (ad 51)), (1, .int (iI 1)), (2, .int (iI v2_1))]) C dX10_mayBe_67 rfl (Nat.le_of_ble_eq_true rfl) [1, 0, 2] rfl rfl ?_
                refine x_iinc (q := 71) (z' := v2_1 + 1) (lv' := [(0, .ref (ad 51)), (1, .int (iI 1)), (2, .int (iI (v2_1 + 1)))]) C dX10_mayBe_68 2 rfl rfl (Nat.le_of_ble_eq_true rfl) [1, 2, 0] rfl rfl ?_
                refine x_goto (tgt := 4) C dX10_mayBe_71 rfl ?_
                obtain ⟨n25, hl26, h⟩ := h
                refine x_sub [0, 1, 2] rfl ?_
                exact ih1 n25 hl26 _ _ h
          · have h := h.2 c14
            refine x_iconst (q := 40) (z := 1) C dX10_mayBe_39 rfl rfl ?_
            refine x_goto (tgt := 44) C dX10_mayBe_40 rfl ?_
            refine x_aload_n (q := 45) (i := 0) C dX10_mayBe_44 rfl 0 rfl rfl ?_
            refine x_getR (q := 48) (c0 := 62) C (Nat.le_of_ble_eq_true rfl) ly_51 fk_RX10_40 rfl dX10_mayBe_45 rfl ?_
            refine x_iload_n (q := 49) (i := 2) C dX10_mayBe_48 rfl 2 rfl rfl ?_
            refine x_iald (q := 50) C (Nat.le_of_ble_eq_true rfl) ly_62 dX10_mayBe_49 (ix o10 rfl) (Nat.le_of_ble_eq_true rfl) rfl ?_
            refine x_iconst (q := 51) (z := 1) C dX10_mayBe_50 rfl rfl ?_
            obtain ⟨o27, h⟩ := h
            refine x_icmp_ne (q := 54) (tgt := 58) C dX10_mayBe_51 rfl ⟨o27, by decide⟩ rfl (fun c28 => ?_) (fun c28 => ?_)
            · have h := h.1 c28
              refine x_iconst (q := 59) (z := 0) C dX10_mayBe_58 rfl rfl ?_
              refine x_icmp_ne (q := 62) (tgt := 66) C dX10_mayBe_59 rfl ⟨by decide, by decide⟩ rfl (fun c29 => ?_) (fun c29 => ?_)
              · have h := h.1 c29
                refine x_iconst (q := 67) (z := 0) C dX10_mayBe_66 rfl rfl ?_
                refine x_istore_n (q := 68) (i := 1) (lv' := [(0, .ref (ad 51)), (1, .int (iI 0)), (2, .int (iI v2_1))]) C dX10_mayBe_67 rfl (Nat.le_of_ble_eq_true rfl) [1, 0, 2] rfl rfl ?_
                refine x_iinc (q := 71) (z' := v2_1 + 1) (lv' := [(0, .ref (ad 51)), (1, .int (iI 0)), (2, .int (iI (v2_1 + 1)))]) C dX10_mayBe_68 2 rfl rfl (Nat.le_of_ble_eq_true rfl) [1, 2, 0] rfl rfl ?_
                refine x_goto (tgt := 4) C dX10_mayBe_71 rfl ?_
                obtain ⟨n30, hl31, h⟩ := h
                refine x_sub [0, 1, 2] rfl ?_
                exact ih1 n30 hl31 _ _ h
              · have h := h.2 c29
                refine x_iconst (q := 63) (z := 1) C dX10_mayBe_62 rfl rfl ?_
                refine x_goto (tgt := 67) C dX10_mayBe_63 rfl ?_
                refine x_istore_n (q := 68) (i := 1) (lv' := [(0, .ref (ad 51)), (1, .int (iI 1)), (2, .int (iI v2_1))]) C dX10_mayBe_67 rfl (Nat.le_of_ble_eq_true rfl) [1, 0, 2] rfl rfl ?_
                refine x_iinc (q := 71) (z' := v2_1 + 1) (lv' := [(0, .ref (ad 51)), (1, .int (iI 1)), (2, .int (iI (v2_1 + 1)))]) C dX10_mayBe_68 2 rfl rfl (Nat.le_of_ble_eq_true rfl) [1, 2, 0] rfl rfl ?_
                refine x_goto (tgt := 4) C dX10_mayBe_71 rfl ?_
                obtain ⟨n32, hl33, h⟩ := h
                refine x_sub [0, 1, 2] rfl ?_
                exact ih1 n32 hl33 _ _ h
            · have h := h.2 c28
              refine x_iconst (q := 55) (z := 1) C dX10_mayBe_54 rfl rfl ?_
              refine x_goto (tgt := 59) C dX10_mayBe_55 rfl ?_
              refine x_icmp_ne (q := 62) (tgt := 66) C dX10_mayBe_59 rfl ⟨by decide, by decide⟩ rfl (fun c34 => ?_) (fun c34 => ?_)
              · have h := h.1 c34
                refine x_iconst (q := 67) (z := 0) C dX10_mayBe_66 rfl rfl ?_
                refine x_istore_n (q := 68) (i := 1) (lv' := [(0, .ref (ad 51)), (1, .int (iI 0)), (2, .int (iI v2_1))]) C dX10_mayBe_67 rfl (Nat.le_of_ble_eq_true rfl) [1, 0, 2] rfl rfl ?_
                refine x_iinc (q := 71) (z' := v2_1 + 1) (lv' := [(0, .ref (ad 51)), (1, .int (iI 0)), (2, .int (iI (v2_1 + 1)))]) C dX10_mayBe_68 2 rfl rfl (Nat.le_of_ble_eq_true rfl) [1, 2, 0] rfl rfl ?_
                refine x_goto (tgt := 4) C dX10_mayBe_71 rfl ?_
                obtain ⟨n35, hl36, h⟩ := h
                refine x_sub [0, 1, 2] rfl ?_
                exact ih1 n35 hl36 _ _ h
              · have h := h.2 c34
                refine x_iconst (q := 63) (z := 1) C dX10_mayBe_62 rfl rfl ?_
                refine x_goto (tgt := 67) C dX10_mayBe_63 rfl ?_
                refine x_istore_n (q := 68) (i := 1) (lv' := [(0, .ref (ad 51)), (1, .int (iI 1)), (2, .int (iI v2_1))]) C dX10_mayBe_67 rfl (Nat.le_of_ble_eq_true rfl) [1, 0, 2] rfl rfl ?_
                refine x_iinc (q := 71) (z' := v2_1 + 1) (lv' := [(0, .ref (ad 51)), (1, .int (iI 1)), (2, .int (iI (v2_1 + 1)))]) C dX10_mayBe_68 2 rfl rfl (Nat.le_of_ble_eq_true rfl) [1, 2, 0] rfl rfl ?_
                refine x_goto (tgt := 4) C dX10_mayBe_71 rfl ?_
                obtain ⟨n37, hl38, h⟩ := h
                refine x_sub [0, 1, 2] rfl ?_
                exact ih1 n37 hl38 _ _ h
  exact L1 n01 1 0 h01
abbrev rm_X10_gaps : Room := { frames := 5, cells := 0, slots := 0, locals := 123 }
def vc_X10_gaps (σ : GS) (a0 : Int) (Post : Int → GS → Prop) : Prop :=
  (rg a0) ∧
  (vc_X10_in σ a0 0 1 (fun (z2 : Int) =>
    (rg z2) ∧
  ((¬ z2 = 0 →
    (∃ I5 : Nat → Int → Int → Int → GS → Prop, (∃ n : Nat, I5 n 0 (-9) 0 σ) ∧ ∀ (n5 : Nat) (v2_5 : Int) (v3_5 : Int) (v4_5 : Int) (σ5 : GS), I5 n5 v2_5 v3_5 v4_5 σ5 →
    (vc_X10_waysMany σ5  (fun (z6 : Int) =>
          (rg v4_5) ∧
        ((rg z6) ∧
        ((z6 ≤ v4_5 →
          ((¬ a0 = 0 →
            (Post v3_5 σ5)) ∧
          (a0 = 0 →
            (Post v2_5 σ5)))) ∧
        (¬ z6 ≤ v4_5 →
          (vc_X10_layWay σ5 v4_5 (fun (z11 : Int) (σ11 : GS) =>
            (rg z11) ∧
          ((z11 = 0 →
            (∃ n' : Nat, n' < n5 ∧ I5 n' v2_5 v3_5 (v4_5 + 1) σ11)) ∧
          (¬ z11 = 0 →
            (vc_X10_mayBe σ11  (fun (z16 : Int) =>
              (rg z16) ∧
            ((z16 = 0 →
              (∃ n' : Nat, n' < n5 ∧ I5 n' v2_5 v3_5 (v4_5 + 1) σ11)) ∧
            (¬ z16 = 0 →
              ((rg v2_5) ∧
              ((¬ v2_5 = 0 →
                (∃ n' : Nat, n' < n5 ∧ I5 n' (v2_5 + 1) v3_5 (v4_5 + 1) σ11)) ∧
              (v2_5 = 0 →
                (vc_X10_figuresOf σ11 1 (fun (z25 : Int) =>
                  ∃ n' : Nat, n' < n5 ∧ I5 n' (v2_5 + 1) z25 (v4_5 + 1) σ11)))))))))))))))))))) ∧
  (z2 = 0 →
    (Post (-2) σ)))))
set_option maxHeartbeats 4000000 in
set_option maxRecDepth 10000 in
theorem m_X10_gaps (l : Launch) {ad : Nat → Nat} {D : va_G} {cI cZ cG : ClassId} (hI : Ij ad) {σ : GS} {a0 : Int} {Post : Int → GS → Prop} (h : vc_X10_gaps σ a0 Post) : Met l yX10_gaps (wX yX10_gaps cX10_gaps 5 (some .int)) rm_X10_gaps (va_Pc [.ref (ad 51), .int (iI a0)] (Wd ad D cI cZ cG σ)) (QI ad D cI cZ cG Post) 0 0 (Aw ad) := by
  refine met_V (own := RX10) hI (by decide +kernel) rfl (Nat.le_of_ble_eq_true rfl) ?_
  intro p e s m args below meth c C
  unfold vc_X10_gaps at h
  show V p l e rm_X10_gaps s m args below meth c ad D cI cZ cG (Aw ad) 5 0 0 (MQ below (QI ad D cI cZ cG Post) args s 0 0 (Aw ad)) σ 0 [(0, .ref (ad 51)), (1, .int (iI a0))] []
  refine x_iload_n (q := 1) (i := 1) C dX10_gaps_0 rfl 1 rfl rfl ?_
  obtain ⟨o1, h⟩ := h
  refine x_i2l (q := 2) C dX10_gaps_1 o1 rfl ?_
  refine x_lconst (q := 3) (z := 0) C dX10_gaps_2 rfl rfl ?_
  refine x_lconst (q := 4) (z := 1) C dX10_gaps_3 rfl rfl ?_
  refine x_staI (q := 7) C ck_RX10_52 t4_33 (m_X10_in l hI h) ⟨⟨rfl, rfl⟩, ⟨Nat.le_of_ble_eq_true rfl, Nat.le_of_ble_eq_true rfl⟩, ⟨Nat.zero_le _, Nat.zero_le _⟩⟩ dX10_gaps_4 rfl rfl (Nat.le_of_ble_eq_true rfl) rfl (fun z2 σ2 h => ?_)
  rw [h.1]
  have h := h.2
  obtain ⟨o3, h⟩ := h
  refine x_if_ne (q := 10) (tgt := 13) C dX10_gaps_7 rfl o3 rfl (fun c4 => ?_) (fun c4 => ?_)
  · have h := h.1 c4
    refine x_iconst (q := 14) (z := 0) C dX10_gaps_13 rfl rfl ?_
    refine x_istore_n (q := 15) (i := 2) (lv' := [(0, .ref (ad 51)), (1, .int (iI a0)), (2, .int (iI 0))]) C dX10_gaps_14 rfl (Nat.le_of_ble_eq_true rfl) [1, 2, 0] rfl rfl ?_
    refine x_bipush (q := 17) (z := (-9)) C dX10_gaps_15 rfl rfl ?_
    refine x_istore_n (q := 18) (i := 3) (lv' := [(0, .ref (ad 51)), (1, .int (iI a0)), (2, .int (iI 0)), (3, .int (iI (-9)))]) C dX10_gaps_17 rfl (Nat.le_of_ble_eq_true rfl) [1, 2, 3, 0] rfl rfl ?_
    refine x_iconst (q := 19) (z := 0) C dX10_gaps_18 rfl rfl ?_
    refine x_istore (q := 21) (i := 4) (lv' := [(0, .ref (ad 51)), (1, .int (iI a0)), (2, .int (iI 0)), (3, .int (iI (-9))), (4, .int (iI 0))]) C dX10_gaps_19 (Nat.le_of_ble_eq_true rfl) [1, 2, 3, 4, 0] rfl rfl ?_
    obtain ⟨I5, ⟨n05, h05⟩, hs5⟩ := h
    have L5 : ∀ (n5 : Nat) (v2_5 : Int) (v3_5 : Int) (v4_5 : Int) (σ5 : GS), I5 n5 v2_5 v3_5 v4_5 σ5 → V p l e rm_X10_gaps s m args below meth c ad D cI cZ cG (Aw ad) 5 0 0 (MQ below (QI ad D cI cZ cG Post) args s 0 0 (Aw ad)) σ5 21 [(0, .ref (ad 51)), (1, .int (iI a0)), (2, .int (iI v2_5)), (3, .int (iI v3_5)), (4, .int (iI v4_5))] [] := by
      intro n5
      induction n5 using Nat.strongRecOn with
      | ind n5 ih5 =>
        intro v2_5 v3_5 v4_5 σ5 h
        have h := hs5 n5 v2_5 v3_5 v4_5 σ5 h
        refine x_iload (q := 23) C dX10_gaps_21 4 rfl rfl ?_
        refine x_aload_n (q := 24) (i := 0) C dX10_gaps_23 rfl 0 rfl rfl ?_
        refine x_virI (q := 27) C (Nat.le_of_ble_eq_true rfl) ly_51 rfl ck_RX10_164 vk_X10_waysMany (m_X10_waysMany l hI h) ⟨⟨rfl, rfl⟩, ⟨Nat.le_of_ble_eq_true rfl, Nat.le_of_ble_eq_true rfl⟩, ⟨Nat.zero_le _, Nat.zero_le _⟩⟩ dX10_gaps_24 rfl rfl (Nat.le_of_ble_eq_true rfl) rfl (fun z6 σ6 h => ?_)
        rw [h.1]
        have h := h.2
        obtain ⟨o7, h⟩ := h
        obtain ⟨o8, h⟩ := h
        refine x_icmp_ge (q := 30) (tgt := 69) C dX10_gaps_27 rfl ⟨o7, o8⟩ rfl (fun c9 => ?_) (fun c9 => ?_)
        · have h := h.1 c9
          refine x_iload_n (q := 70) (i := 1) C dX10_gaps_69 rfl 1 rfl rfl ?_
          refine x_if_ne (q := 73) (tgt := 77) C dX10_gaps_70 rfl o1 rfl (fun c10 => ?_) (fun c10 => ?_)
          · have h := h.1 c10
            refine x_iload_n (q := 78) (i := 3) C dX10_gaps_77 rfl 3 rfl rfl ?_
            exact x_iret C dX10_gaps_78 h
          · have h := h.2 c10
            refine x_iload_n (q := 74) (i := 2) C dX10_gaps_73 rfl 2 rfl rfl ?_
            refine x_goto (tgt := 78) C dX10_gaps_74 rfl ?_
            exact x_iret C dX10_gaps_78 h
        · have h := h.2 c9
          refine x_aload_n (q := 31) (i := 0) C dX10_gaps_30 rfl 0 rfl rfl ?_
          refine x_iload (q := 33) C dX10_gaps_31 4 rfl rfl ?_
          refine x_virI (q := 36) C (Nat.le_of_ble_eq_true rfl) ly_51 rfl ck_RX10_167 vk_X10_layWay (m_X10_layWay l hI h) ⟨⟨rfl, rfl⟩, ⟨Nat.le_of_ble_eq_true rfl, Nat.le_of_ble_eq_true rfl⟩, ⟨Nat.zero_le _, Nat.zero_le _⟩⟩ dX10_gaps_33 rfl rfl (Nat.le_of_ble_eq_true rfl) rfl (fun z11 σ11 h => ?_)
          obtain ⟨o12, h⟩ := h
          refine x_if_eq (q := 39) (tgt := 63) C dX10_gaps_36 rfl o12 rfl (fun c13 => ?_) (fun c13 => ?_)
          · have h := h.1 c13
            refine x_iinc (q := 66) (z' := v4_5 + 1) (lv' := [(0, .ref (ad 51)), (1, .int (iI a0)), (2, .int (iI v2_5)), (3, .int (iI v3_5)), (4, .int (iI (v4_5 + 1)))]) C dX10_gaps_63 4 rfl rfl (Nat.le_of_ble_eq_true rfl) [1, 2, 3, 4, 0] rfl rfl ?_
            refine x_goto (tgt := 21) C dX10_gaps_66 rfl ?_
            obtain ⟨n14, hl15, h⟩ := h
            refine x_sub [0, 1, 2, 3, 4] rfl ?_
            exact ih5 n14 hl15 _ _ _ _ h
          · have h := h.2 c13
            refine x_aload_n (q := 40) (i := 0) C dX10_gaps_39 rfl 0 rfl rfl ?_
            refine x_virI (q := 43) C (Nat.le_of_ble_eq_true rfl) ly_51 rfl ck_RX10_199 vk_X10_mayBe (m_X10_mayBe l hI h) ⟨⟨rfl, rfl⟩, ⟨Nat.le_of_ble_eq_true rfl, Nat.le_of_ble_eq_true rfl⟩, ⟨Nat.zero_le _, Nat.zero_le _⟩⟩ dX10_gaps_40 rfl rfl (Nat.le_of_ble_eq_true rfl) rfl (fun z16 σ16 h => ?_)
            rw [h.1]
            have h := h.2
            obtain ⟨o17, h⟩ := h
            refine x_if_eq (q := 46) (tgt := 63) C dX10_gaps_43 rfl o17 rfl (fun c18 => ?_) (fun c18 => ?_)
            · have h := h.1 c18
              refine x_iinc (q := 66) (z' := v4_5 + 1) (lv' := [(0, .ref (ad 51)), (1, .int (iI a0)), (2, .int (iI v2_5)), (3, .int (iI v3_5)), (4, .int (iI (v4_5 + 1)))]) C dX10_gaps_63 4 rfl rfl (Nat.le_of_ble_eq_true rfl) [1, 2, 3, 4, 0] rfl rfl ?_
              refine x_goto (tgt := 21) C dX10_gaps_66 rfl ?_
              obtain ⟨n19, hl20, h⟩ := h
              refine x_sub [0, 1, 2, 3, 4] rfl ?_
              exact ih5 n19 hl20 _ _ _ _ h
            · have h := h.2 c18
              refine x_iload_n (q := 47) (i := 2) C dX10_gaps_46 rfl 2 rfl rfl ?_
              obtain ⟨o21, h⟩ := h
              refine x_if_ne (q := 50) (tgt := 58) C dX10_gaps_47 rfl o21 rfl (fun c22 => ?_) (fun c22 => ?_)
              · have h := h.1 c22
                refine x_iload_n (q := 59) (i := 3) C dX10_gaps_58 rfl 3 rfl rfl ?_
                refine x_istore_n (q := 60) (i := 3) (lv' := [(0, .ref (ad 51)), (1, .int (iI a0)), (2, .int (iI v2_5)), (3, .int (iI v3_5)), (4, .int (iI v4_5))]) C dX10_gaps_59 rfl (Nat.le_of_ble_eq_true rfl) [1, 2, 3, 0, 4] rfl rfl ?_
                refine x_iinc (q := 63) (z' := v2_5 + 1) (lv' := [(0, .ref (ad 51)), (1, .int (iI a0)), (2, .int (iI (v2_5 + 1))), (3, .int (iI v3_5)), (4, .int (iI v4_5))]) C dX10_gaps_60 2 rfl rfl (Nat.le_of_ble_eq_true rfl) [1, 2, 0, 3, 4] rfl rfl ?_
                refine x_iinc (q := 66) (z' := v4_5 + 1) (lv' := [(0, .ref (ad 51)), (1, .int (iI a0)), (2, .int (iI (v2_5 + 1))), (3, .int (iI v3_5)), (4, .int (iI (v4_5 + 1)))]) C dX10_gaps_63 4 rfl rfl (Nat.le_of_ble_eq_true rfl) [1, 2, 3, 4, 0] rfl rfl ?_
                refine x_goto (tgt := 21) C dX10_gaps_66 rfl ?_
                obtain ⟨n23, hl24, h⟩ := h
                refine x_sub [0, 1, 2, 3, 4] rfl ?_
                exact ih5 n23 hl24 _ _ _ _ h
              · have h := h.2 c22
                refine x_aload_n (q := 51) (i := 0) C dX10_gaps_50 rfl 0 rfl rfl ?_
                refine x_iconst (q := 52) (z := 1) C dX10_gaps_51 rfl rfl ?_
                refine x_virI (q := 55) C (Nat.le_of_ble_eq_true rfl) ly_51 rfl ck_RX10_173 vk_X10_figuresOf (m_X10_figuresOf l hI h) ⟨⟨rfl, rfl⟩, ⟨Nat.le_of_ble_eq_true rfl, Nat.le_of_ble_eq_true rfl⟩, ⟨Nat.zero_le _, Nat.zero_le _⟩⟩ dX10_gaps_52 rfl rfl (Nat.le_of_ble_eq_true rfl) rfl (fun z25 σ25 h => ?_)
                rw [h.1]
                have h := h.2
                refine x_goto (tgt := 59) C dX10_gaps_55 rfl ?_
                refine x_istore_n (q := 60) (i := 3) (lv' := [(0, .ref (ad 51)), (1, .int (iI a0)), (2, .int (iI v2_5)), (3, .int (iI z25)), (4, .int (iI v4_5))]) C dX10_gaps_59 rfl (Nat.le_of_ble_eq_true rfl) [1, 2, 3, 0, 4] rfl rfl ?_
                refine x_iinc (q := 63) (z' := v2_5 + 1) (lv' := [(0, .ref (ad 51)), (1, .int (iI a0)), (2, .int (iI (v2_5 + 1))), (3, .int (iI z25)), (4, .int (iI v4_5))]) C dX10_gaps_60 2 rfl rfl (Nat.le_of_ble_eq_true rfl) [1, 2, 0, 3, 4] rfl rfl ?_
                refine x_iinc (q := 66) (z' := v4_5 + 1) (lv' := [(0, .ref (ad 51)), (1, .int (iI a0)), (2, .int (iI (v2_5 + 1))), (3, .int (iI z25)), (4, .int (iI (v4_5 + 1)))]) C dX10_gaps_63 4 rfl rfl (Nat.le_of_ble_eq_true rfl) [1, 2, 3, 4, 0] rfl rfl ?_
                refine x_goto (tgt := 21) C dX10_gaps_66 rfl ?_
                obtain ⟨n26, hl27, h⟩ := h
                refine x_sub [0, 1, 2, 3, 4] rfl ?_
                exact ih5 n26 hl27 _ _ _ _ h
    exact L5 n05 0 (-9) 0 σ h05
  · have h := h.2 c4
    refine x_bipush (q := 12) (z := (-2)) C dX10_gaps_10 rfl rfl ?_
    exact x_iret C dX10_gaps_12 h
abbrev rm_X10_factorial : Room := { frames := 0, cells := 0, slots := 0, locals := 0 }
def vc_X10_factorial (σ : GS) (a0 : Int) (Post : Int → Prop) : Prop :=
  ∃ I1 : Nat → Int → Int → Prop, (∃ n : Nat, I1 n 1 2) ∧ ∀ (n1 : Nat) (v1_1 : Int) (v2_1 : Int), I1 n1 v1_1 v2_1 →
  ((rg v2_1) ∧
      ((rg a0) ∧
      ((a0 < v2_1 →
        (Post v1_1)) ∧
      (¬ a0 < v2_1 →
        (∃ n' : Nat, n' < n1 ∧ I1 n' (v1_1 * v2_1) (v2_1 + 1))))))
set_option maxHeartbeats 4000000 in
set_option maxRecDepth 10000 in
theorem m_X10_factorial (l : Launch) {ad : Nat → Nat} {D : va_G} {cI cZ cG : ClassId} (hI : Ij ad) {σ : GS} {a0 : Int} {Post : Int → Prop} (h : vc_X10_factorial σ a0 Post) : Met l yX10_factorial (wX yX10_factorial cX10_factorial 3 (some .int)) rm_X10_factorial (va_Pc [.int (iI a0)] (Wd ad D cI cZ cG σ)) (QI ad D cI cZ cG (fun z u => u = σ ∧ Post z)) 0 0 (Aw ad) := by
  refine met_V (own := RX10) hI (by decide +kernel) rfl (Nat.le_of_ble_eq_true rfl) ?_
  intro p e s m args below meth c C
  unfold vc_X10_factorial at h
  show V p l e rm_X10_factorial s m args below meth c ad D cI cZ cG (Aw ad) 3 0 0 (MQ below (QI ad D cI cZ cG (fun z u => u = σ ∧ Post z)) args s 0 0 (Aw ad)) σ 0 [(0, .int (iI a0))] []
  refine x_iconst (q := 1) (z := 1) C dX10_factorial_0 rfl rfl ?_
  refine x_istore_n (q := 2) (i := 1) (lv' := [(0, .int (iI a0)), (1, .int (iI 1))]) C dX10_factorial_1 rfl (Nat.le_of_ble_eq_true rfl) [1, 0] rfl rfl ?_
  refine x_iconst (q := 3) (z := 2) C dX10_factorial_2 rfl rfl ?_
  refine x_istore_n (q := 4) (i := 2) (lv' := [(0, .int (iI a0)), (1, .int (iI 1)), (2, .int (iI 2))]) C dX10_factorial_3 rfl (Nat.le_of_ble_eq_true rfl) [1, 2, 0] rfl rfl ?_
  obtain ⟨I1, ⟨n01, h01⟩, hs1⟩ := h
  have L1 : ∀ (n1 : Nat) (v1_1 : Int) (v2_1 : Int), I1 n1 v1_1 v2_1 → V p l e rm_X10_factorial s m args below meth c ad D cI cZ cG (Aw ad) 3 0 0 (MQ below (QI ad D cI cZ cG (fun z u => u = σ ∧ Post z)) args s 0 0 (Aw ad)) σ 4 [(0, .int (iI a0)), (1, .int (iI v1_1)), (2, .int (iI v2_1))] [] := by
    intro n1
    induction n1 using Nat.strongRecOn with
    | ind n1 ih1 =>
      intro v1_1 v2_1 h
      have h := hs1 n1 v1_1 v2_1 h
      refine x_iload_n (q := 5) (i := 2) C dX10_factorial_4 rfl 2 rfl rfl ?_
      refine x_iload_n (q := 6) (i := 0) C dX10_factorial_5 rfl 0 rfl rfl ?_
      obtain ⟨o2, h⟩ := h
      obtain ⟨o3, h⟩ := h
      refine x_icmp_gt (q := 9) (tgt := 19) C dX10_factorial_6 rfl ⟨o2, o3⟩ rfl (fun c4 => ?_) (fun c4 => ?_)
      · have h := h.1 c4
        refine x_iload_n (q := 20) (i := 1) C dX10_factorial_19 rfl 1 rfl rfl ?_
        exact x_iret C dX10_factorial_20 ⟨rfl, h⟩
      · have h := h.2 c4
        refine x_iload_n (q := 10) (i := 1) C dX10_factorial_9 rfl 1 rfl rfl ?_
        refine x_iload_n (q := 11) (i := 2) C dX10_factorial_10 rfl 2 rfl rfl ?_
        refine x_imul (q := 12) C dX10_factorial_11  rfl ?_
        refine x_istore_n (q := 13) (i := 1) (lv' := [(0, .int (iI a0)), (1, .int (iI (v1_1 * v2_1))), (2, .int (iI v2_1))]) C dX10_factorial_12 rfl (Nat.le_of_ble_eq_true rfl) [1, 0, 2] rfl rfl ?_
        refine x_iinc (q := 16) (z' := v2_1 + 1) (lv' := [(0, .int (iI a0)), (1, .int (iI (v1_1 * v2_1))), (2, .int (iI (v2_1 + 1)))]) C dX10_factorial_13 2 rfl rfl (Nat.le_of_ble_eq_true rfl) [1, 2, 0] rfl rfl ?_
        refine x_goto (tgt := 4) C dX10_factorial_16 rfl ?_
        obtain ⟨n5, hl6, h⟩ := h
        refine x_sub [0, 1, 2] rfl ?_
        exact ih1 n5 hl6 _ _ h
  exact L1 n01 1 2 h01
abbrev rm_X10_common : Room := { frames := 0, cells := 0, slots := 0, locals := 0 }
def vc_X10_common (σ : GS) (a0 : Int) (a1 : Int) (Post : Int → Prop) : Prop :=
  (rg a0) ∧
  (((0 : Int) ≤ a0 →
    (∃ I3 : Nat → Int → Int → Prop, (∃ n : Nat, I3 n a0 a1) ∧ ∀ (n3 : Nat) (v2_3 : Int) (v3_3 : Int), I3 n3 v2_3 v3_3 →
    ((rg v3_3) ∧
        ((v3_3 = 0 →
          (Post v2_3)) ∧
        (¬ v3_3 = 0 →
          (((0 ≤ v2_3 ∧ v2_3 ≤ 2147483647) ∧ (0 < v3_3 ∧ v3_3 ≤ 2147483647)) ∧
          (∃ n' : Nat, n' < n3 ∧ I3 n' v3_3 (v2_3 % v3_3)))))))) ∧
  (¬ (0 : Int) ≤ a0 →
    (∃ I9 : Nat → Int → Int → Prop, (∃ n : Nat, I9 n (-a0) a1) ∧ ∀ (n9 : Nat) (v2_9 : Int) (v3_9 : Int), I9 n9 v2_9 v3_9 →
    ((rg v3_9) ∧
        ((v3_9 = 0 →
          (Post v2_9)) ∧
        (¬ v3_9 = 0 →
          (((0 ≤ v2_9 ∧ v2_9 ≤ 2147483647) ∧ (0 < v3_9 ∧ v3_9 ≤ 2147483647)) ∧
          (∃ n' : Nat, n' < n9 ∧ I9 n' v3_9 (v2_9 % v3_9)))))))))
set_option maxHeartbeats 4000000 in
set_option maxRecDepth 10000 in
theorem m_X10_common (l : Launch) {ad : Nat → Nat} {D : va_G} {cI cZ cG : ClassId} (hI : Ij ad) {σ : GS} {a0 : Int} {a1 : Int} {Post : Int → Prop} (h : vc_X10_common σ a0 a1 Post) : Met l yX10_common (wX yX10_common cX10_common 5 (some .int)) rm_X10_common (va_Pc [.int (iI a0), .int (iI a1)] (Wd ad D cI cZ cG σ)) (QI ad D cI cZ cG (fun z u => u = σ ∧ Post z)) 0 0 (Aw ad) := by
  refine met_V (own := RX10) hI (by decide +kernel) rfl (Nat.le_of_ble_eq_true rfl) ?_
  intro p e s m args below meth c C
  unfold vc_X10_common at h
  show V p l e rm_X10_common s m args below meth c ad D cI cZ cG (Aw ad) 5 0 0 (MQ below (QI ad D cI cZ cG (fun z u => u = σ ∧ Post z)) args s 0 0 (Aw ad)) σ 0 [(0, .int (iI a0)), (1, .int (iI a1))] []
  refine x_iload_n (q := 1) (i := 0) C dX10_common_0 rfl 0 rfl rfl ?_
  obtain ⟨o1, h⟩ := h
  refine x_if_ge (q := 4) (tgt := 9) C dX10_common_1 rfl o1 rfl (fun c2 => ?_) (fun c2 => ?_)
  · have h := h.1 c2
    refine x_iload_n (q := 10) (i := 0) C dX10_common_9 rfl 0 rfl rfl ?_
    refine x_istore_n (q := 11) (i := 2) (lv' := [(0, .int (iI a0)), (1, .int (iI a1)), (2, .int (iI a0))]) C dX10_common_10 rfl (Nat.le_of_ble_eq_true rfl) [1, 2, 0] rfl rfl ?_
    refine x_iload_n (q := 12) (i := 1) C dX10_common_11 rfl 1 rfl rfl ?_
    refine x_istore_n (q := 13) (i := 3) (lv' := [(0, .int (iI a0)), (1, .int (iI a1)), (2, .int (iI a0)), (3, .int (iI a1))]) C dX10_common_12 rfl (Nat.le_of_ble_eq_true rfl) [1, 2, 3, 0] rfl rfl ?_
    obtain ⟨I3, ⟨n03, h03⟩, hs3⟩ := h
    have L3 : ∀ (n3 : Nat) (v2_3 : Int) (v3_3 : Int), I3 n3 v2_3 v3_3 → V p l e rm_X10_common s m args below meth c ad D cI cZ cG (Aw ad) 5 0 0 (MQ below (QI ad D cI cZ cG (fun z u => u = σ ∧ Post z)) args s 0 0 (Aw ad)) σ 13 [(0, .int (iI a0)), (1, .int (iI a1)), (2, .int (iI v2_3)), (3, .int (iI v3_3))] [] := by
      intro n3
      induction n3 using Nat.strongRecOn with
      | ind n3 ih3 =>
        intro v2_3 v3_3 h
        have h := hs3 n3 v2_3 v3_3 h
        refine x_iload_n (q := 14) (i := 3) C dX10_common_13 rfl 3 rfl rfl ?_
        obtain ⟨o4, h⟩ := h
        refine x_if_eq (q := 17) (tgt := 30) C dX10_common_14 rfl o4 rfl (fun c5 => ?_) (fun c5 => ?_)
        · have h := h.1 c5
          refine x_iload_n (q := 31) (i := 2) C dX10_common_30 rfl 2 rfl rfl ?_
          exact x_iret C dX10_common_31 ⟨rfl, h⟩
        · have h := h.2 c5
          refine x_iload_n (q := 18) (i := 2) C dX10_common_17 rfl 2 rfl rfl ?_
          refine x_iload_n (q := 19) (i := 3) C dX10_common_18 rfl 3 rfl rfl ?_
          obtain ⟨o6, h⟩ := h
          refine x_irem (q := 20) C dX10_common_19 o6 rfl ?_
          refine x_istore (q := 22) (i := 4) (lv' := [(0, .int (iI a0)), (1, .int (iI a1)), (2, .int (iI v2_3)), (3, .int (iI v3_3)), (4, .int (iI (v2_3 % v3_3)))]) C dX10_common_20 (Nat.le_of_ble_eq_true rfl) [1, 2, 3, 4, 0] rfl rfl ?_
          refine x_iload_n (q := 23) (i := 3) C dX10_common_22 rfl 3 rfl rfl ?_
          refine x_istore_n (q := 24) (i := 2) (lv' := [(0, .int (iI a0)), (1, .int (iI a1)), (2, .int (iI v3_3)), (3, .int (iI v3_3)), (4, .int (iI (v2_3 % v3_3)))]) C dX10_common_23 rfl (Nat.le_of_ble_eq_true rfl) [1, 2, 0, 3, 4] rfl rfl ?_
          refine x_iload (q := 26) C dX10_common_24 4 rfl rfl ?_
          refine x_istore_n (q := 27) (i := 3) (lv' := [(0, .int (iI a0)), (1, .int (iI a1)), (2, .int (iI v3_3)), (3, .int (iI (v2_3 % v3_3))), (4, .int (iI (v2_3 % v3_3)))]) C dX10_common_26 rfl (Nat.le_of_ble_eq_true rfl) [1, 2, 3, 0, 4] rfl rfl ?_
          refine x_goto (tgt := 13) C dX10_common_27 rfl ?_
          obtain ⟨n7, hl8, h⟩ := h
          refine x_sub [0, 1, 2, 3] rfl ?_
          exact ih3 n7 hl8 _ _ h
    exact L3 n03 a0 a1 h03
  · have h := h.2 c2
    refine x_iload_n (q := 5) (i := 0) C dX10_common_4 rfl 0 rfl rfl ?_
    refine x_ineg (q := 6) C dX10_common_5  rfl ?_
    refine x_goto (tgt := 10) C dX10_common_6 rfl ?_
    refine x_istore_n (q := 11) (i := 2) (lv' := [(0, .int (iI a0)), (1, .int (iI a1)), (2, .int (iI (-a0)))]) C dX10_common_10 rfl (Nat.le_of_ble_eq_true rfl) [1, 2, 0] rfl rfl ?_
    refine x_iload_n (q := 12) (i := 1) C dX10_common_11 rfl 1 rfl rfl ?_
    refine x_istore_n (q := 13) (i := 3) (lv' := [(0, .int (iI a0)), (1, .int (iI a1)), (2, .int (iI (-a0))), (3, .int (iI a1))]) C dX10_common_12 rfl (Nat.le_of_ble_eq_true rfl) [1, 2, 3, 0] rfl rfl ?_
    obtain ⟨I9, ⟨n09, h09⟩, hs9⟩ := h
    have L9 : ∀ (n9 : Nat) (v2_9 : Int) (v3_9 : Int), I9 n9 v2_9 v3_9 → V p l e rm_X10_common s m args below meth c ad D cI cZ cG (Aw ad) 5 0 0 (MQ below (QI ad D cI cZ cG (fun z u => u = σ ∧ Post z)) args s 0 0 (Aw ad)) σ 13 [(0, .int (iI a0)), (1, .int (iI a1)), (2, .int (iI v2_9)), (3, .int (iI v3_9))] [] := by
      intro n9
      induction n9 using Nat.strongRecOn with
      | ind n9 ih9 =>
        intro v2_9 v3_9 h
        have h := hs9 n9 v2_9 v3_9 h
        refine x_iload_n (q := 14) (i := 3) C dX10_common_13 rfl 3 rfl rfl ?_
        obtain ⟨o10, h⟩ := h
        refine x_if_eq (q := 17) (tgt := 30) C dX10_common_14 rfl o10 rfl (fun c11 => ?_) (fun c11 => ?_)
        · have h := h.1 c11
          refine x_iload_n (q := 31) (i := 2) C dX10_common_30 rfl 2 rfl rfl ?_
          exact x_iret C dX10_common_31 ⟨rfl, h⟩
        · have h := h.2 c11
          refine x_iload_n (q := 18) (i := 2) C dX10_common_17 rfl 2 rfl rfl ?_
          refine x_iload_n (q := 19) (i := 3) C dX10_common_18 rfl 3 rfl rfl ?_
          obtain ⟨o12, h⟩ := h
          refine x_irem (q := 20) C dX10_common_19 o12 rfl ?_
          refine x_istore (q := 22) (i := 4) (lv' := [(0, .int (iI a0)), (1, .int (iI a1)), (2, .int (iI v2_9)), (3, .int (iI v3_9)), (4, .int (iI (v2_9 % v3_9)))]) C dX10_common_20 (Nat.le_of_ble_eq_true rfl) [1, 2, 3, 4, 0] rfl rfl ?_
          refine x_iload_n (q := 23) (i := 3) C dX10_common_22 rfl 3 rfl rfl ?_
          refine x_istore_n (q := 24) (i := 2) (lv' := [(0, .int (iI a0)), (1, .int (iI a1)), (2, .int (iI v3_9)), (3, .int (iI v3_9)), (4, .int (iI (v2_9 % v3_9)))]) C dX10_common_23 rfl (Nat.le_of_ble_eq_true rfl) [1, 2, 0, 3, 4] rfl rfl ?_
          refine x_iload (q := 26) C dX10_common_24 4 rfl rfl ?_
          refine x_istore_n (q := 27) (i := 3) (lv' := [(0, .int (iI a0)), (1, .int (iI a1)), (2, .int (iI v3_9)), (3, .int (iI (v2_9 % v3_9))), (4, .int (iI (v2_9 % v3_9)))]) C dX10_common_26 rfl (Nat.le_of_ble_eq_true rfl) [1, 2, 3, 0, 4] rfl rfl ?_
          refine x_goto (tgt := 13) C dX10_common_27 rfl ?_
          obtain ⟨n13, hl14, h⟩ := h
          refine x_sub [0, 1, 2, 3] rfl ?_
          exact ih9 n13 hl14 _ _ h
    exact L9 n09 (-a0) a1 h09
abbrev rm_X10_share : Room := { frames := 4, cells := 0, slots := 0, locals := 100 }
def vc_X10_share (σ : GS) (a0 : Int) (a1 : Int) (Post : Int → Prop) : Prop :=
  vc_X10_isBlade σ a0 (fun (z1 : Int) =>
    (rg z1) ∧
  ((¬ z1 = 0 →
    (∃ I4 : Nat → Int → Int → Prop, (∃ n : Nat, I4 n 0 0) ∧ ∀ (n4 : Nat) (v3_4 : Int) (v4_4 : Int), I4 n4 v3_4 v4_4 →
    (((0 ≤ (1 : Int) ∧ (1 : Int) * 2 ^ (σ 51 0).toNat ≤ 2147483647) ∧ (0 ≤ (σ 51 0) ∧ (σ 51 0) < 32)) ∧
        ((rg v4_4) ∧
        ((rg (1 * 2 ^ (σ 51 0).toNat)) ∧
        (((1 * 2 ^ (σ 51 0).toNat) ≤ v4_4 →
          (vc_X10_factorial σ (σ 51 0) (fun (z9 : Int) =>
            vc_X10_common σ v3_4 z9 (fun (z10 : Int) =>
            (rg a1) ∧
          ((a1 = 0 →
            (vc_X10_factorial σ (σ 51 0) (fun (z13 : Int) =>
              ((0 ≤ z13 ∧ z13 ≤ 2147483647) ∧ (0 < z10 ∧ z10 ≤ 2147483647)) ∧
            (Post (z13 / z10))))) ∧
          (¬ a1 = 0 →
            (((0 ≤ v3_4 ∧ v3_4 ≤ 2147483647) ∧ (0 < z10 ∧ z10 ≤ 2147483647)) ∧
            (Post (v3_4 / z10))))))))) ∧
        (¬ (1 * 2 ^ (σ 51 0).toNat) ≤ v4_4 →
          (vc_X10_has σ v4_4 a0 (fun (z16 : Int) =>
            (rg z16) ∧
          ((¬ z16 = 0 →
            (∃ n' : Nat, n' < n4 ∧ I4 n' v3_4 (v4_4 + 1))) ∧
          (z16 = 0 →
            (vc_X10_ones σ v4_4 (fun (z21 : Int) =>
              vc_X10_factorial σ z21 (fun (z22 : Int) =>
              vc_X10_ones σ v4_4 (fun (z23 : Int) =>
              vc_X10_factorial σ (((σ 51 0) - 1) - z23) (fun (z24 : Int) =>
              ((0 ≤ (1 : Int) ∧ (1 : Int) * 2 ^ a0.toNat ≤ 2147483647) ∧ (0 ≤ a0 ∧ a0 < 32)) ∧
            (((0 : Int) ≤ v4_4 ∧ (0 : Int) ≤ (1 * 2 ^ a0.toNat)) ∧
            (vc_X10_placesSeen σ 0 (bor v4_4 (1 * 2 ^ a0.toNat)) (fun (z27 : Int) =>
              vc_X10_placesSeen σ 0 v4_4 (fun (z28 : Int) =>
              ∃ n' : Nat, n' < n4 ∧ I4 n' (v3_4 + ((z22 * z24) * (z27 - z28))) (v4_4 + 1))))))))))))))))))))) ∧
  (z1 = 0 →
    (Post (-1)))))
set_option maxHeartbeats 4000000 in
set_option maxRecDepth 10000 in
theorem m_X10_share (l : Launch) {ad : Nat → Nat} {D : va_G} {cI cZ cG : ClassId} (hI : Ij ad) {σ : GS} {a0 : Int} {a1 : Int} {Post : Int → Prop} (h : vc_X10_share σ a0 a1 Post) : Met l yX10_share (wX yX10_share cX10_share 6 (some .int)) rm_X10_share (va_Pc [.ref (ad 51), .int (iI a0), .int (iI a1)] (Wd ad D cI cZ cG σ)) (QI ad D cI cZ cG (fun z u => u = σ ∧ Post z)) 0 0 (Aw ad) := by
  refine met_V (own := RX10) hI (by decide +kernel) rfl (Nat.le_of_ble_eq_true rfl) ?_
  intro p e s m args below meth c C
  unfold vc_X10_share at h
  show V p l e rm_X10_share s m args below meth c ad D cI cZ cG (Aw ad) 6 0 0 (MQ below (QI ad D cI cZ cG (fun z u => u = σ ∧ Post z)) args s 0 0 (Aw ad)) σ 0 [(0, .ref (ad 51)), (1, .int (iI a0)), (2, .int (iI a1))] []
  refine x_aload_n (q := 1) (i := 0) C dX10_share_0 rfl 0 rfl rfl ?_
  refine x_iload_n (q := 2) (i := 1) C dX10_share_1 rfl 1 rfl rfl ?_
  refine x_virI (q := 5) C (Nat.le_of_ble_eq_true rfl) ly_51 rfl ck_RX10_126 vk_X10_isBlade (m_X10_isBlade l hI h) ⟨⟨rfl, rfl⟩, ⟨Nat.le_of_ble_eq_true rfl, Nat.le_of_ble_eq_true rfl⟩, ⟨Nat.zero_le _, Nat.zero_le _⟩⟩ dX10_share_2 rfl rfl (Nat.le_of_ble_eq_true rfl) rfl (fun z1 σ1 h => ?_)
  rw [h.1]
  have h := h.2
  obtain ⟨o2, h⟩ := h
  refine x_if_ne (q := 8) (tgt := 10) C dX10_share_5 rfl o2 rfl (fun c3 => ?_) (fun c3 => ?_)
  · have h := h.1 c3
    refine x_iconst (q := 11) (z := 0) C dX10_share_10 rfl rfl ?_
    refine x_istore_n (q := 12) (i := 3) (lv' := [(0, .ref (ad 51)), (1, .int (iI a0)), (2, .int (iI a1)), (3, .int (iI 0))]) C dX10_share_11 rfl (Nat.le_of_ble_eq_true rfl) [1, 2, 3, 0] rfl rfl ?_
    refine x_iconst (q := 13) (z := 0) C dX10_share_12 rfl rfl ?_
    refine x_istore (q := 15) (i := 4) (lv' := [(0, .ref (ad 51)), (1, .int (iI a0)), (2, .int (iI a1)), (3, .int (iI 0)), (4, .int (iI 0))]) C dX10_share_13 (Nat.le_of_ble_eq_true rfl) [1, 2, 3, 4, 0] rfl rfl ?_
    obtain ⟨I4, ⟨n04, h04⟩, hs4⟩ := h
    have L4 : ∀ (n4 : Nat) (v3_4 : Int) (v4_4 : Int), I4 n4 v3_4 v4_4 → V p l e rm_X10_share s m args below meth c ad D cI cZ cG (Aw ad) 6 0 0 (MQ below (QI ad D cI cZ cG (fun z u => u = σ ∧ Post z)) args s 0 0 (Aw ad)) σ 15 [(0, .ref (ad 51)), (1, .int (iI a0)), (2, .int (iI a1)), (3, .int (iI v3_4)), (4, .int (iI v4_4))] [] := by
      intro n4
      induction n4 using Nat.strongRecOn with
      | ind n4 ih4 =>
        intro v3_4 v4_4 h
        have h := hs4 n4 v3_4 v4_4 h
        refine x_iload (q := 17) C dX10_share_15 4 rfl rfl ?_
        refine x_iconst (q := 18) (z := 1) C dX10_share_17 rfl rfl ?_
        refine x_aload_n (q := 19) (i := 0) C dX10_share_18 rfl 0 rfl rfl ?_
        refine x_getI (q := 22) C (Nat.le_of_ble_eq_true rfl) ly_51 fk_RX10_75 rfl dX10_share_19 rfl ?_
        obtain ⟨o5, h⟩ := h
        refine x_ishl (q := 23) C dX10_share_22 o5 rfl ?_
        obtain ⟨o6, h⟩ := h
        obtain ⟨o7, h⟩ := h
        refine x_icmp_ge (q := 26) (tgt := 92) C dX10_share_23 rfl ⟨o6, o7⟩ rfl (fun c8 => ?_) (fun c8 => ?_)
        · have h := h.1 c8
          refine x_iload_n (q := 93) (i := 3) C dX10_share_92 rfl 3 rfl rfl ?_
          refine x_aload_n (q := 94) (i := 0) C dX10_share_93 rfl 0 rfl rfl ?_
          refine x_getI (q := 97) C (Nat.le_of_ble_eq_true rfl) ly_51 fk_RX10_75 rfl dX10_share_94 rfl ?_
          refine x_staI (q := 100) C ck_RX10_206 t5_6 (m_X10_factorial l hI h) ⟨⟨rfl, rfl⟩, ⟨Nat.le_of_ble_eq_true rfl, Nat.le_of_ble_eq_true rfl⟩, ⟨Nat.zero_le _, Nat.zero_le _⟩⟩ dX10_share_97 rfl rfl (Nat.le_of_ble_eq_true rfl) rfl (fun z9 σ9 h => ?_)
          rw [h.1]
          have h := h.2
          refine x_staI (q := 103) C ck_RX10_212 t5_13 (m_X10_common l hI h) ⟨⟨rfl, rfl⟩, ⟨Nat.le_of_ble_eq_true rfl, Nat.le_of_ble_eq_true rfl⟩, ⟨Nat.zero_le _, Nat.zero_le _⟩⟩ dX10_share_100 rfl rfl (Nat.le_of_ble_eq_true rfl) rfl (fun z10 σ10 h => ?_)
          rw [h.1]
          have h := h.2
          refine x_istore (q := 105) (i := 4) (lv' := [(0, .ref (ad 51)), (1, .int (iI a0)), (2, .int (iI a1)), (3, .int (iI v3_4)), (4, .int (iI z10))]) C dX10_share_103 (Nat.le_of_ble_eq_true rfl) [1, 2, 3, 4, 0] rfl rfl ?_
          refine x_iload_n (q := 106) (i := 2) C dX10_share_105 rfl 2 rfl rfl ?_
          obtain ⟨o11, h⟩ := h
          refine x_if_eq (q := 109) (tgt := 116) C dX10_share_106 rfl o11 rfl (fun c12 => ?_) (fun c12 => ?_)
          · have h := h.1 c12
            refine x_aload_n (q := 117) (i := 0) C dX10_share_116 rfl 0 rfl rfl ?_
            refine x_getI (q := 120) C (Nat.le_of_ble_eq_true rfl) ly_51 fk_RX10_75 rfl dX10_share_117 rfl ?_
            refine x_staI (q := 123) C ck_RX10_206 t5_6 (m_X10_factorial l hI h) ⟨⟨rfl, rfl⟩, ⟨Nat.le_of_ble_eq_true rfl, Nat.le_of_ble_eq_true rfl⟩, ⟨Nat.zero_le _, Nat.zero_le _⟩⟩ dX10_share_120 rfl rfl (Nat.le_of_ble_eq_true rfl) rfl (fun z13 σ13 h => ?_)
            rw [h.1]
            have h := h.2
            refine x_iload (q := 125) C dX10_share_123 4 rfl rfl ?_
            obtain ⟨o14, h⟩ := h
            refine x_idiv (q := 126) C dX10_share_125 o14 rfl ?_
            exact x_iret C dX10_share_126 ⟨rfl, h⟩
          · have h := h.2 c12
            refine x_iload_n (q := 110) (i := 3) C dX10_share_109 rfl 3 rfl rfl ?_
            refine x_iload (q := 112) C dX10_share_110 4 rfl rfl ?_
            obtain ⟨o15, h⟩ := h
            refine x_idiv (q := 113) C dX10_share_112 o15 rfl ?_
            refine x_goto (tgt := 126) C dX10_share_113 rfl ?_
            exact x_iret C dX10_share_126 ⟨rfl, h⟩
        · have h := h.2 c8
          refine x_iload (q := 28) C dX10_share_26 4 rfl rfl ?_
          refine x_iload_n (q := 29) (i := 1) C dX10_share_28 rfl 1 rfl rfl ?_
          refine x_staI (q := 32) C ck_RX10_105 t4_90 (m_X10_has l hI h) ⟨⟨rfl, rfl⟩, ⟨Nat.le_of_ble_eq_true rfl, Nat.le_of_ble_eq_true rfl⟩, ⟨Nat.zero_le _, Nat.zero_le _⟩⟩ dX10_share_29 rfl rfl (Nat.le_of_ble_eq_true rfl) rfl (fun z16 σ16 h => ?_)
          rw [h.1]
          have h := h.2
          obtain ⟨o17, h⟩ := h
          refine x_if_ne (q := 35) (tgt := 86) C dX10_share_32 rfl o17 rfl (fun c18 => ?_) (fun c18 => ?_)
          · have h := h.1 c18
            refine x_iinc (q := 89) (z' := v4_4 + 1) (lv' := [(0, .ref (ad 51)), (1, .int (iI a0)), (2, .int (iI a1)), (3, .int (iI v3_4)), (4, .int (iI (v4_4 + 1)))]) C dX10_share_86 4 rfl rfl (Nat.le_of_ble_eq_true rfl) [1, 2, 3, 4, 0] rfl rfl ?_
            refine x_goto (tgt := 15) C dX10_share_89 rfl ?_
            obtain ⟨n19, hl20, h⟩ := h
            refine x_sub [0, 1, 2, 3, 4] rfl ?_
            exact ih4 n19 hl20 _ _ h
          · have h := h.2 c18
            refine x_iload (q := 37) C dX10_share_35 4 rfl rfl ?_
            refine x_staI (q := 40) C ck_RX10_203 t5_3 (m_X10_ones l hI h) ⟨⟨rfl, rfl⟩, ⟨Nat.le_of_ble_eq_true rfl, Nat.le_of_ble_eq_true rfl⟩, ⟨Nat.zero_le _, Nat.zero_le _⟩⟩ dX10_share_37 rfl rfl (Nat.le_of_ble_eq_true rfl) rfl (fun z21 σ21 h => ?_)
            rw [h.1]
            have h := h.2
            refine x_staI (q := 43) C ck_RX10_206 t5_6 (m_X10_factorial l hI h) ⟨⟨rfl, rfl⟩, ⟨Nat.le_of_ble_eq_true rfl, Nat.le_of_ble_eq_true rfl⟩, ⟨Nat.zero_le _, Nat.zero_le _⟩⟩ dX10_share_40 rfl rfl (Nat.le_of_ble_eq_true rfl) rfl (fun z22 σ22 h => ?_)
            rw [h.1]
            have h := h.2
            refine x_aload_n (q := 44) (i := 0) C dX10_share_43 rfl 0 rfl rfl ?_
            refine x_getI (q := 47) C (Nat.le_of_ble_eq_true rfl) ly_51 fk_RX10_75 rfl dX10_share_44 rfl ?_
            refine x_iconst (q := 48) (z := 1) C dX10_share_47 rfl rfl ?_
            refine x_isub (q := 49) C dX10_share_48  rfl ?_
            refine x_iload (q := 51) C dX10_share_49 4 rfl rfl ?_
            refine x_staI (q := 54) C ck_RX10_203 t5_3 (m_X10_ones l hI h) ⟨⟨rfl, rfl⟩, ⟨Nat.le_of_ble_eq_true rfl, Nat.le_of_ble_eq_true rfl⟩, ⟨Nat.zero_le _, Nat.zero_le _⟩⟩ dX10_share_51 rfl rfl (Nat.le_of_ble_eq_true rfl) rfl (fun z23 σ23 h => ?_)
            rw [h.1]
            have h := h.2
            refine x_isub (q := 55) C dX10_share_54  rfl ?_
            refine x_staI (q := 58) C ck_RX10_206 t5_6 (m_X10_factorial l hI h) ⟨⟨rfl, rfl⟩, ⟨Nat.le_of_ble_eq_true rfl, Nat.le_of_ble_eq_true rfl⟩, ⟨Nat.zero_le _, Nat.zero_le _⟩⟩ dX10_share_55 rfl rfl (Nat.le_of_ble_eq_true rfl) rfl (fun z24 σ24 h => ?_)
            rw [h.1]
            have h := h.2
            refine x_imul (q := 59) C dX10_share_58  rfl ?_
            refine x_istore (q := 61) (i := 5) (lv' := [(0, .ref (ad 51)), (1, .int (iI a0)), (2, .int (iI a1)), (3, .int (iI v3_4)), (4, .int (iI v4_4)), (5, .int (iI (z22 * z24)))]) C dX10_share_59 (Nat.le_of_ble_eq_true rfl) [1, 2, 3, 4, 5, 0] rfl rfl ?_
            refine x_iload_n (q := 62) (i := 3) C dX10_share_61 rfl 3 rfl rfl ?_
            refine x_iload (q := 64) C dX10_share_62 5 rfl rfl ?_
            refine x_aload_n (q := 65) (i := 0) C dX10_share_64 rfl 0 rfl rfl ?_
            refine x_iconst (q := 66) (z := 0) C dX10_share_65 rfl rfl ?_
            refine x_iload (q := 68) C dX10_share_66 4 rfl rfl ?_
            refine x_iconst (q := 69) (z := 1) C dX10_share_68 rfl rfl ?_
            refine x_iload_n (q := 70) (i := 1) C dX10_share_69 rfl 1 rfl rfl ?_
            obtain ⟨o25, h⟩ := h
            refine x_ishl (q := 71) C dX10_share_70 o25 rfl ?_
            obtain ⟨o26, h⟩ := h
            refine x_ior (q := 72) C dX10_share_71 o26 rfl ?_
            refine x_virI (q := 75) C (Nat.le_of_ble_eq_true rfl) ly_51 rfl ck_RX10_209 vk_X10_placesSeen (m_X10_placesSeen l hI h) ⟨⟨rfl, rfl⟩, ⟨Nat.le_of_ble_eq_true rfl, Nat.le_of_ble_eq_true rfl⟩, ⟨Nat.zero_le _, Nat.zero_le _⟩⟩ dX10_share_72 rfl rfl (Nat.le_of_ble_eq_true rfl) rfl (fun z27 σ27 h => ?_)
            rw [h.1]
            have h := h.2
            refine x_aload_n (q := 76) (i := 0) C dX10_share_75 rfl 0 rfl rfl ?_
            refine x_iconst (q := 77) (z := 0) C dX10_share_76 rfl rfl ?_
            refine x_iload (q := 79) C dX10_share_77 4 rfl rfl ?_
            refine x_virI (q := 82) C (Nat.le_of_ble_eq_true rfl) ly_51 rfl ck_RX10_209 vk_X10_placesSeen (m_X10_placesSeen l hI h) ⟨⟨rfl, rfl⟩, ⟨Nat.le_of_ble_eq_true rfl, Nat.le_of_ble_eq_true rfl⟩, ⟨Nat.zero_le _, Nat.zero_le _⟩⟩ dX10_share_79 rfl rfl (Nat.le_of_ble_eq_true rfl) rfl (fun z28 σ28 h => ?_)
            rw [h.1]
            have h := h.2
            refine x_isub (q := 83) C dX10_share_82  rfl ?_
            refine x_imul (q := 84) C dX10_share_83  rfl ?_
            refine x_iadd (q := 85) C dX10_share_84  rfl ?_
            refine x_istore_n (q := 86) (i := 3) (lv' := [(0, .ref (ad 51)), (1, .int (iI a0)), (2, .int (iI a1)), (3, .int (iI (v3_4 + ((z22 * z24) * (z27 - z28))))), (4, .int (iI v4_4)), (5, .int (iI (z22 * z24)))]) C dX10_share_85 rfl (Nat.le_of_ble_eq_true rfl) [1, 2, 3, 0, 4, 5] rfl rfl ?_
            refine x_iinc (q := 89) (z' := v4_4 + 1) (lv' := [(0, .ref (ad 51)), (1, .int (iI a0)), (2, .int (iI a1)), (3, .int (iI (v3_4 + ((z22 * z24) * (z27 - z28))))), (4, .int (iI (v4_4 + 1))), (5, .int (iI (z22 * z24)))]) C dX10_share_86 4 rfl rfl (Nat.le_of_ble_eq_true rfl) [1, 2, 3, 4, 0, 5] rfl rfl ?_
            refine x_goto (tgt := 15) C dX10_share_89 rfl ?_
            obtain ⟨n29, hl30, h⟩ := h
            refine x_sub [0, 1, 2, 3, 4] rfl ?_
            exact ih4 n29 hl30 _ _ h
    exact L4 n04 0 0 h04
  · have h := h.2 c3
    refine x_iconst (q := 9) (z := (-1)) C dX10_share_8 rfl rfl ?_
    exact x_iret C dX10_share_9 ⟨rfl, h⟩
