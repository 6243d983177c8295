theorem tq1 {w : Cond} (i : Nat) (h : tables_1_1[i]? = some w) : w ∈ lw_tbl := List.mem_append_right _ (List.mem_append_left _ (List.mem_of_getElem? h))
theorem tq2 {w : Cond} (i : Nat) (h : tables_1_2[i]? = some w) : w ∈ lw_tbl := List.mem_append_right _ (List.mem_append_right _ (List.mem_append_left _ (List.mem_of_getElem? h)))
theorem in_nw1_t : nw1 ∈ lw_tbl := tq2 4 (by decide +kernel)
theorem in_nw2_t : nw2 ∈ lw_tbl := tq2 112 (by decide +kernel)
theorem in_nw_11_t : nw_11 ∈ lw_tbl := tq1 25 (by decide +kernel)
theorem in_nw_18_t : nw_18 ∈ lw_tbl := tq1 39 (by decide +kernel)
theorem in_nw_53_t : nw_53 ∈ lw_tbl := tq1 111 (by decide +kernel)
theorem in_nw_60_t : nw_60 ∈ lw_tbl := tq1 124 (by decide +kernel)
theorem in_nw_67_t : nw_67 ∈ lw_tbl := tq1 138 (by decide +kernel)
theorem in_nw_74_t : nw_74 ∈ lw_tbl := tq1 153 (by decide +kernel)
theorem in_nwO_t : nwO ∈ lw_tbl := tq1 73 (by decide +kernel)
/-- the cells' addresses -/
def adx (h0 h1 : Nat) (u v : Nat → Nat) (k : Nat) : Nat := if k = 0 then h0 else if k = 51 then h1 else if 51 < k then v k else if 12 ≤ k ∧ k < 19 then u 11 + 1 + (k - 12) else if 25 ≤ k ∧ k < 39 then u 24 + 1 + (k - 25) else if 41 ≤ k ∧ k < 43 then u 40 + 1 + (k - 41) else u k
abbrev WW (cI cZ cG : ClassId) (h0 h1 : Nat) (u v : Nat → Nat) : va_W := W1_X9_init cI cZ cG h0 u ++ W1_X10_init cI cZ cG h1 v
theorem adx_11 (h0 h1 : Nat) (u v : Nat → Nat) : (fun i => if i < 7 then some (adx h0 h1 u v (12 + i)) else none) = (fun i => if i < 7 then some (u 11 + 1 + i) else none) := by
  funext i
  by_cases h : i < 7
  · rw [if_pos h, if_pos h]
    congr 1
    unfold adx
    repeat' split
    all_goals first | omega | rfl
  · rw [if_neg h, if_neg h]
theorem adx_24 (h0 h1 : Nat) (u v : Nat → Nat) : (fun i => if i < 14 then some (adx h0 h1 u v (25 + i)) else none) = (fun i => if i < 14 then some (u 24 + 1 + i) else none) := by
  funext i
  by_cases h : i < 14
  · rw [if_pos h, if_pos h]
    congr 1
    unfold adx
    repeat' split
    all_goals first | omega | rfl
  · rw [if_neg h, if_neg h]
theorem adx_40 (h0 h1 : Nat) (u v : Nat → Nat) : (fun i => if i < 2 then some (adx h0 h1 u v (41 + i)) else none) = (fun i => if i < 2 then some (u 40 + 1 + i) else none) := by
  funext i
  by_cases h : i < 2
  · rw [if_pos h, if_pos h]
    congr 1
    unfold adx
    repeat' split
    all_goals first | omega | rfl
  · rw [if_neg h, if_neg h]
theorem ww_0 (cI cZ cG : ClassId) (h0 h1 : Nat) (u v : Nat → Nat) : (WW cI cZ cG h0 h1 u v)[0]? = some (adx h0 h1 u v 0, xE (adx h0 h1 u v) cI cZ cG σ0 0) := rfl
theorem ww_1 (cI cZ cG : ClassId) (h0 h1 : Nat) (u v : Nat → Nat) : (WW cI cZ cG h0 h1 u v)[1]? = some (adx h0 h1 u v 1, xE (adx h0 h1 u v) cI cZ cG σ0 1) := rfl
theorem ww_2 (cI cZ cG : ClassId) (h0 h1 : Nat) (u v : Nat → Nat) : (WW cI cZ cG h0 h1 u v)[2]? = some (adx h0 h1 u v 2, xE (adx h0 h1 u v) cI cZ cG σ0 2) := rfl
theorem ww_3 (cI cZ cG : ClassId) (h0 h1 : Nat) (u v : Nat → Nat) : (WW cI cZ cG h0 h1 u v)[3]? = some (adx h0 h1 u v 3, xE (adx h0 h1 u v) cI cZ cG σ0 3) := rfl
theorem ww_4 (cI cZ cG : ClassId) (h0 h1 : Nat) (u v : Nat → Nat) : (WW cI cZ cG h0 h1 u v)[4]? = some (adx h0 h1 u v 4, xE (adx h0 h1 u v) cI cZ cG σ0 4) := rfl
theorem ww_5 (cI cZ cG : ClassId) (h0 h1 : Nat) (u v : Nat → Nat) : (WW cI cZ cG h0 h1 u v)[5]? = some (adx h0 h1 u v 5, xE (adx h0 h1 u v) cI cZ cG σ0 5) := rfl
theorem ww_6 (cI cZ cG : ClassId) (h0 h1 : Nat) (u v : Nat → Nat) : (WW cI cZ cG h0 h1 u v)[6]? = some (adx h0 h1 u v 6, xE (adx h0 h1 u v) cI cZ cG σ0 6) := rfl
theorem ww_7 (cI cZ cG : ClassId) (h0 h1 : Nat) (u v : Nat → Nat) : (WW cI cZ cG h0 h1 u v)[7]? = some (adx h0 h1 u v 7, xE (adx h0 h1 u v) cI cZ cG σ0 7) := rfl
theorem ww_8 (cI cZ cG : ClassId) (h0 h1 : Nat) (u v : Nat → Nat) : (WW cI cZ cG h0 h1 u v)[8]? = some (adx h0 h1 u v 8, xE (adx h0 h1 u v) cI cZ cG σ0 8) := rfl
theorem ww_9 (cI cZ cG : ClassId) (h0 h1 : Nat) (u v : Nat → Nat) : (WW cI cZ cG h0 h1 u v)[9]? = some (adx h0 h1 u v 9, xE (adx h0 h1 u v) cI cZ cG σ0 9) := rfl
theorem ww_10 (cI cZ cG : ClassId) (h0 h1 : Nat) (u v : Nat → Nat) : (WW cI cZ cG h0 h1 u v)[10]? = some (adx h0 h1 u v 10, xE (adx h0 h1 u v) cI cZ cG σ0 10) := rfl
theorem ww_11 (cI cZ cG : ClassId) (h0 h1 : Nat) (u v : Nat → Nat) : (WW cI cZ cG h0 h1 u v)[11]? = some (adx h0 h1 u v 11, xE (adx h0 h1 u v) cI cZ cG σ0 11) := by
  show some _ = some (_, Sum.inl (cG, _, Sum.inr (Sum.inr (Sum.inr (Sum.inr (fun i => if i < 7 then some (adx h0 h1 u v (12 + i)) else none))))))
  rw [adx_11]
  rfl
theorem ww_12 (cI cZ cG : ClassId) (h0 h1 : Nat) (u v : Nat → Nat) : (WW cI cZ cG h0 h1 u v)[12]? = some (adx h0 h1 u v 12, xE (adx h0 h1 u v) cI cZ cG σ0 12) := rfl
theorem ww_13 (cI cZ cG : ClassId) (h0 h1 : Nat) (u v : Nat → Nat) : (WW cI cZ cG h0 h1 u v)[13]? = some (adx h0 h1 u v 13, xE (adx h0 h1 u v) cI cZ cG σ0 13) := rfl
theorem ww_14 (cI cZ cG : ClassId) (h0 h1 : Nat) (u v : Nat → Nat) : (WW cI cZ cG h0 h1 u v)[14]? = some (adx h0 h1 u v 14, xE (adx h0 h1 u v) cI cZ cG σ0 14) := rfl
theorem ww_15 (cI cZ cG : ClassId) (h0 h1 : Nat) (u v : Nat → Nat) : (WW cI cZ cG h0 h1 u v)[15]? = some (adx h0 h1 u v 15, xE (adx h0 h1 u v) cI cZ cG σ0 15) := rfl
theorem ww_16 (cI cZ cG : ClassId) (h0 h1 : Nat) (u v : Nat → Nat) : (WW cI cZ cG h0 h1 u v)[16]? = some (adx h0 h1 u v 16, xE (adx h0 h1 u v) cI cZ cG σ0 16) := rfl
theorem ww_17 (cI cZ cG : ClassId) (h0 h1 : Nat) (u v : Nat → Nat) : (WW cI cZ cG h0 h1 u v)[17]? = some (adx h0 h1 u v 17, xE (adx h0 h1 u v) cI cZ cG σ0 17) := rfl
theorem ww_18 (cI cZ cG : ClassId) (h0 h1 : Nat) (u v : Nat → Nat) : (WW cI cZ cG h0 h1 u v)[18]? = some (adx h0 h1 u v 18, xE (adx h0 h1 u v) cI cZ cG σ0 18) := rfl
theorem ww_19 (cI cZ cG : ClassId) (h0 h1 : Nat) (u v : Nat → Nat) : (WW cI cZ cG h0 h1 u v)[19]? = some (adx h0 h1 u v 19, xE (adx h0 h1 u v) cI cZ cG σ0 19) := rfl
theorem ww_20 (cI cZ cG : ClassId) (h0 h1 : Nat) (u v : Nat → Nat) : (WW cI cZ cG h0 h1 u v)[20]? = some (adx h0 h1 u v 20, xE (adx h0 h1 u v) cI cZ cG σ0 20) := rfl
theorem ww_21 (cI cZ cG : ClassId) (h0 h1 : Nat) (u v : Nat → Nat) : (WW cI cZ cG h0 h1 u v)[21]? = some (adx h0 h1 u v 21, xE (adx h0 h1 u v) cI cZ cG σ0 21) := rfl
theorem ww_22 (cI cZ cG : ClassId) (h0 h1 : Nat) (u v : Nat → Nat) : (WW cI cZ cG h0 h1 u v)[22]? = some (adx h0 h1 u v 22, xE (adx h0 h1 u v) cI cZ cG σ0 22) := rfl
theorem ww_23 (cI cZ cG : ClassId) (h0 h1 : Nat) (u v : Nat → Nat) : (WW cI cZ cG h0 h1 u v)[23]? = some (adx h0 h1 u v 23, xE (adx h0 h1 u v) cI cZ cG σ0 23) := rfl
theorem ww_24 (cI cZ cG : ClassId) (h0 h1 : Nat) (u v : Nat → Nat) : (WW cI cZ cG h0 h1 u v)[24]? = some (adx h0 h1 u v 24, xE (adx h0 h1 u v) cI cZ cG σ0 24) := by
  show some _ = some (_, Sum.inl (cG, _, Sum.inr (Sum.inr (Sum.inr (Sum.inr (fun i => if i < 14 then some (adx h0 h1 u v (25 + i)) else none))))))
  rw [adx_24]
  rfl
theorem ww_25 (cI cZ cG : ClassId) (h0 h1 : Nat) (u v : Nat → Nat) : (WW cI cZ cG h0 h1 u v)[25]? = some (adx h0 h1 u v 25, xE (adx h0 h1 u v) cI cZ cG σ0 25) := rfl
theorem ww_26 (cI cZ cG : ClassId) (h0 h1 : Nat) (u v : Nat → Nat) : (WW cI cZ cG h0 h1 u v)[26]? = some (adx h0 h1 u v 26, xE (adx h0 h1 u v) cI cZ cG σ0 26) := rfl
theorem ww_27 (cI cZ cG : ClassId) (h0 h1 : Nat) (u v : Nat → Nat) : (WW cI cZ cG h0 h1 u v)[27]? = some (adx h0 h1 u v 27, xE (adx h0 h1 u v) cI cZ cG σ0 27) := rfl
theorem ww_28 (cI cZ cG : ClassId) (h0 h1 : Nat) (u v : Nat → Nat) : (WW cI cZ cG h0 h1 u v)[28]? = some (adx h0 h1 u v 28, xE (adx h0 h1 u v) cI cZ cG σ0 28) := rfl
theorem ww_29 (cI cZ cG : ClassId) (h0 h1 : Nat) (u v : Nat → Nat) : (WW cI cZ cG h0 h1 u v)[29]? = some (adx h0 h1 u v 29, xE (adx h0 h1 u v) cI cZ cG σ0 29) := rfl
theorem ww_30 (cI cZ cG : ClassId) (h0 h1 : Nat) (u v : Nat → Nat) : (WW cI cZ cG h0 h1 u v)[30]? = some (adx h0 h1 u v 30, xE (adx h0 h1 u v) cI cZ cG σ0 30) := rfl
theorem ww_31 (cI cZ cG : ClassId) (h0 h1 : Nat) (u v : Nat → Nat) : (WW cI cZ cG h0 h1 u v)[31]? = some (adx h0 h1 u v 31, xE (adx h0 h1 u v) cI cZ cG σ0 31) := rfl
theorem ww_32 (cI cZ cG : ClassId) (h0 h1 : Nat) (u v : Nat → Nat) : (WW cI cZ cG h0 h1 u v)[32]? = some (adx h0 h1 u v 32, xE (adx h0 h1 u v) cI cZ cG σ0 32) := rfl
theorem ww_33 (cI cZ cG : ClassId) (h0 h1 : Nat) (u v : Nat → Nat) : (WW cI cZ cG h0 h1 u v)[33]? = some (adx h0 h1 u v 33, xE (adx h0 h1 u v) cI cZ cG σ0 33) := rfl
theorem ww_34 (cI cZ cG : ClassId) (h0 h1 : Nat) (u v : Nat → Nat) : (WW cI cZ cG h0 h1 u v)[34]? = some (adx h0 h1 u v 34, xE (adx h0 h1 u v) cI cZ cG σ0 34) := rfl
theorem ww_35 (cI cZ cG : ClassId) (h0 h1 : Nat) (u v : Nat → Nat) : (WW cI cZ cG h0 h1 u v)[35]? = some (adx h0 h1 u v 35, xE (adx h0 h1 u v) cI cZ cG σ0 35) := rfl
theorem ww_36 (cI cZ cG : ClassId) (h0 h1 : Nat) (u v : Nat → Nat) : (WW cI cZ cG h0 h1 u v)[36]? = some (adx h0 h1 u v 36, xE (adx h0 h1 u v) cI cZ cG σ0 36) := rfl
theorem ww_37 (cI cZ cG : ClassId) (h0 h1 : Nat) (u v : Nat → Nat) : (WW cI cZ cG h0 h1 u v)[37]? = some (adx h0 h1 u v 37, xE (adx h0 h1 u v) cI cZ cG σ0 37) := rfl
theorem ww_38 (cI cZ cG : ClassId) (h0 h1 : Nat) (u v : Nat → Nat) : (WW cI cZ cG h0 h1 u v)[38]? = some (adx h0 h1 u v 38, xE (adx h0 h1 u v) cI cZ cG σ0 38) := rfl
theorem ww_39 (cI cZ cG : ClassId) (h0 h1 : Nat) (u v : Nat → Nat) : (WW cI cZ cG h0 h1 u v)[39]? = some (adx h0 h1 u v 39, xE (adx h0 h1 u v) cI cZ cG σ0 39) := rfl
theorem ww_40 (cI cZ cG : ClassId) (h0 h1 : Nat) (u v : Nat → Nat) : (WW cI cZ cG h0 h1 u v)[40]? = some (adx h0 h1 u v 40, xE (adx h0 h1 u v) cI cZ cG σ0 40) := by
  show some _ = some (_, Sum.inl (cG, _, Sum.inr (Sum.inr (Sum.inr (Sum.inr (fun i => if i < 2 then some (adx h0 h1 u v (41 + i)) else none))))))
  rw [adx_40]
  rfl
theorem ww_41 (cI cZ cG : ClassId) (h0 h1 : Nat) (u v : Nat → Nat) : (WW cI cZ cG h0 h1 u v)[41]? = some (adx h0 h1 u v 41, xE (adx h0 h1 u v) cI cZ cG σ0 41) := rfl
theorem ww_42 (cI cZ cG : ClassId) (h0 h1 : Nat) (u v : Nat → Nat) : (WW cI cZ cG h0 h1 u v)[42]? = some (adx h0 h1 u v 42, xE (adx h0 h1 u v) cI cZ cG σ0 42) := rfl
theorem ww_43 (cI cZ cG : ClassId) (h0 h1 : Nat) (u v : Nat → Nat) : (WW cI cZ cG h0 h1 u v)[43]? = some (adx h0 h1 u v 43, xE (adx h0 h1 u v) cI cZ cG σ0 43) := rfl
theorem ww_44 (cI cZ cG : ClassId) (h0 h1 : Nat) (u v : Nat → Nat) : (WW cI cZ cG h0 h1 u v)[44]? = some (adx h0 h1 u v 44, xE (adx h0 h1 u v) cI cZ cG σ0 44) := rfl
theorem ww_45 (cI cZ cG : ClassId) (h0 h1 : Nat) (u v : Nat → Nat) : (WW cI cZ cG h0 h1 u v)[45]? = some (adx h0 h1 u v 45, xE (adx h0 h1 u v) cI cZ cG σ0 45) := rfl
theorem ww_46 (cI cZ cG : ClassId) (h0 h1 : Nat) (u v : Nat → Nat) : (WW cI cZ cG h0 h1 u v)[46]? = some (adx h0 h1 u v 46, xE (adx h0 h1 u v) cI cZ cG σ0 46) := rfl
theorem ww_47 (cI cZ cG : ClassId) (h0 h1 : Nat) (u v : Nat → Nat) : (WW cI cZ cG h0 h1 u v)[47]? = some (adx h0 h1 u v 47, xE (adx h0 h1 u v) cI cZ cG σ0 47) := rfl
theorem ww_48 (cI cZ cG : ClassId) (h0 h1 : Nat) (u v : Nat → Nat) : (WW cI cZ cG h0 h1 u v)[48]? = some (adx h0 h1 u v 48, xE (adx h0 h1 u v) cI cZ cG σ0 48) := rfl
theorem ww_49 (cI cZ cG : ClassId) (h0 h1 : Nat) (u v : Nat → Nat) : (WW cI cZ cG h0 h1 u v)[49]? = some (adx h0 h1 u v 49, xE (adx h0 h1 u v) cI cZ cG σ0 49) := rfl
theorem ww_50 (cI cZ cG : ClassId) (h0 h1 : Nat) (u v : Nat → Nat) : (WW cI cZ cG h0 h1 u v)[50]? = some (adx h0 h1 u v 50, xE (adx h0 h1 u v) cI cZ cG σ0 50) := rfl
theorem ww_51 (cI cZ cG : ClassId) (h0 h1 : Nat) (u v : Nat → Nat) : (WW cI cZ cG h0 h1 u v)[51]? = some (adx h0 h1 u v 51, xE (adx h0 h1 u v) cI cZ cG σ0 51) := rfl
theorem ww_52 (cI cZ cG : ClassId) (h0 h1 : Nat) (u v : Nat → Nat) : (WW cI cZ cG h0 h1 u v)[52]? = some (adx h0 h1 u v 52, xE (adx h0 h1 u v) cI cZ cG σ0 52) := rfl
theorem ww_53 (cI cZ cG : ClassId) (h0 h1 : Nat) (u v : Nat → Nat) : (WW cI cZ cG h0 h1 u v)[53]? = some (adx h0 h1 u v 53, xE (adx h0 h1 u v) cI cZ cG σ0 53) := rfl
theorem ww_54 (cI cZ cG : ClassId) (h0 h1 : Nat) (u v : Nat → Nat) : (WW cI cZ cG h0 h1 u v)[54]? = some (adx h0 h1 u v 54, xE (adx h0 h1 u v) cI cZ cG σ0 54) := rfl
theorem ww_55 (cI cZ cG : ClassId) (h0 h1 : Nat) (u v : Nat → Nat) : (WW cI cZ cG h0 h1 u v)[55]? = some (adx h0 h1 u v 55, xE (adx h0 h1 u v) cI cZ cG σ0 55) := rfl
theorem ww_56 (cI cZ cG : ClassId) (h0 h1 : Nat) (u v : Nat → Nat) : (WW cI cZ cG h0 h1 u v)[56]? = some (adx h0 h1 u v 56, xE (adx h0 h1 u v) cI cZ cG σ0 56) := rfl
theorem ww_57 (cI cZ cG : ClassId) (h0 h1 : Nat) (u v : Nat → Nat) : (WW cI cZ cG h0 h1 u v)[57]? = some (adx h0 h1 u v 57, xE (adx h0 h1 u v) cI cZ cG σ0 57) := rfl
theorem ww_58 (cI cZ cG : ClassId) (h0 h1 : Nat) (u v : Nat → Nat) : (WW cI cZ cG h0 h1 u v)[58]? = some (adx h0 h1 u v 58, xE (adx h0 h1 u v) cI cZ cG σ0 58) := rfl
theorem ww_59 (cI cZ cG : ClassId) (h0 h1 : Nat) (u v : Nat → Nat) : (WW cI cZ cG h0 h1 u v)[59]? = some (adx h0 h1 u v 59, xE (adx h0 h1 u v) cI cZ cG σ0 59) := rfl
theorem ww_60 (cI cZ cG : ClassId) (h0 h1 : Nat) (u v : Nat → Nat) : (WW cI cZ cG h0 h1 u v)[60]? = some (adx h0 h1 u v 60, xE (adx h0 h1 u v) cI cZ cG σ0 60) := rfl
theorem ww_61 (cI cZ cG : ClassId) (h0 h1 : Nat) (u v : Nat → Nat) : (WW cI cZ cG h0 h1 u v)[61]? = some (adx h0 h1 u v 61, xE (adx h0 h1 u v) cI cZ cG σ0 61) := rfl
theorem ww_62 (cI cZ cG : ClassId) (h0 h1 : Nat) (u v : Nat → Nat) : (WW cI cZ cG h0 h1 u v)[62]? = some (adx h0 h1 u v 62, xE (adx h0 h1 u v) cI cZ cG σ0 62) := rfl
theorem ww_63 (cI cZ cG : ClassId) (h0 h1 : Nat) (u v : Nat → Nat) : (WW cI cZ cG h0 h1 u v)[63]? = some (adx h0 h1 u v 63, xE (adx h0 h1 u v) cI cZ cG σ0 63) := rfl
theorem ww_64 (cI cZ cG : ClassId) (h0 h1 : Nat) (u v : Nat → Nat) : (WW cI cZ cG h0 h1 u v)[64]? = some (adx h0 h1 u v 64, xE (adx h0 h1 u v) cI cZ cG σ0 64) := rfl
theorem ww_all (cI cZ cG : ClassId) (h0 h1 : Nat) (u v : Nat → Nat) : ∀ k, k < 65 → (WW cI cZ cG h0 h1 u v)[k]? = some (adx h0 h1 u v k, xE (adx h0 h1 u v) cI cZ cG σ0 k)
  | 0, _ => ww_0 cI cZ cG h0 h1 u v
  | 1, _ => ww_1 cI cZ cG h0 h1 u v
  | 2, _ => ww_2 cI cZ cG h0 h1 u v
  | 3, _ => ww_3 cI cZ cG h0 h1 u v
  | 4, _ => ww_4 cI cZ cG h0 h1 u v
  | 5, _ => ww_5 cI cZ cG h0 h1 u v
  | 6, _ => ww_6 cI cZ cG h0 h1 u v
  | 7, _ => ww_7 cI cZ cG h0 h1 u v
  | 8, _ => ww_8 cI cZ cG h0 h1 u v
  | 9, _ => ww_9 cI cZ cG h0 h1 u v
  | 10, _ => ww_10 cI cZ cG h0 h1 u v
  | 11, _ => ww_11 cI cZ cG h0 h1 u v
  | 12, _ => ww_12 cI cZ cG h0 h1 u v
  | 13, _ => ww_13 cI cZ cG h0 h1 u v
  | 14, _ => ww_14 cI cZ cG h0 h1 u v
  | 15, _ => ww_15 cI cZ cG h0 h1 u v
  | 16, _ => ww_16 cI cZ cG h0 h1 u v
  | 17, _ => ww_17 cI cZ cG h0 h1 u v
  | 18, _ => ww_18 cI cZ cG h0 h1 u v
  | 19, _ => ww_19 cI cZ cG h0 h1 u v
  | 20, _ => ww_20 cI cZ cG h0 h1 u v
  | 21, _ => ww_21 cI cZ cG h0 h1 u v
  | 22, _ => ww_22 cI cZ cG h0 h1 u v
  | 23, _ => ww_23 cI cZ cG h0 h1 u v
  | 24, _ => ww_24 cI cZ cG h0 h1 u v
  | 25, _ => ww_25 cI cZ cG h0 h1 u v
  | 26, _ => ww_26 cI cZ cG h0 h1 u v
  | 27, _ => ww_27 cI cZ cG h0 h1 u v
  | 28, _ => ww_28 cI cZ cG h0 h1 u v
  | 29, _ => ww_29 cI cZ cG h0 h1 u v
  | 30, _ => ww_30 cI cZ cG h0 h1 u v
  | 31, _ => ww_31 cI cZ cG h0 h1 u v
  | 32, _ => ww_32 cI cZ cG h0 h1 u v
  | 33, _ => ww_33 cI cZ cG h0 h1 u v
  | 34, _ => ww_34 cI cZ cG h0 h1 u v
  | 35, _ => ww_35 cI cZ cG h0 h1 u v
  | 36, _ => ww_36 cI cZ cG h0 h1 u v
  | 37, _ => ww_37 cI cZ cG h0 h1 u v
  | 38, _ => ww_38 cI cZ cG h0 h1 u v
  | 39, _ => ww_39 cI cZ cG h0 h1 u v
  | 40, _ => ww_40 cI cZ cG h0 h1 u v
  | 41, _ => ww_41 cI cZ cG h0 h1 u v
  | 42, _ => ww_42 cI cZ cG h0 h1 u v
  | 43, _ => ww_43 cI cZ cG h0 h1 u v
  | 44, _ => ww_44 cI cZ cG h0 h1 u v
  | 45, _ => ww_45 cI cZ cG h0 h1 u v
  | 46, _ => ww_46 cI cZ cG h0 h1 u v
  | 47, _ => ww_47 cI cZ cG h0 h1 u v
  | 48, _ => ww_48 cI cZ cG h0 h1 u v
  | 49, _ => ww_49 cI cZ cG h0 h1 u v
  | 50, _ => ww_50 cI cZ cG h0 h1 u v
  | 51, _ => ww_51 cI cZ cG h0 h1 u v
  | 52, _ => ww_52 cI cZ cG h0 h1 u v
  | 53, _ => ww_53 cI cZ cG h0 h1 u v
  | 54, _ => ww_54 cI cZ cG h0 h1 u v
  | 55, _ => ww_55 cI cZ cG h0 h1 u v
  | 56, _ => ww_56 cI cZ cG h0 h1 u v
  | 57, _ => ww_57 cI cZ cG h0 h1 u v
  | 58, _ => ww_58 cI cZ cG h0 h1 u v
  | 59, _ => ww_59 cI cZ cG h0 h1 u v
  | 60, _ => ww_60 cI cZ cG h0 h1 u v
  | 61, _ => ww_61 cI cZ cG h0 h1 u v
  | 62, _ => ww_62 cI cZ cG h0 h1 u v
  | 63, _ => ww_63 cI cZ cG h0 h1 u v
  | 64, _ => ww_64 cI cZ cG h0 h1 u v
  | k + 65, h => absurd h (by omega)
