theorem ly_0 : lay 0 = cO 9 [f_ 1, f_ 3, f_ 6, f_ 8, f_ 10, f_ 20, f_ 21, f_ 23, f_ 39, f_ 44, f_ 48, f_ 49, f_ 50, fl_] := rfl
theorem ly_1 : lay 1 = cO 3 [f_ 2, fi] := rfl
theorem ly_2 : lay 2 = cA 64 := rfl
theorem ly_3 : lay 3 = cO 1 [f_ 4, f_ 5, fi] := rfl
theorem ly_4 : lay 4 = cA 6 := rfl
theorem ly_5 : lay 5 = cA 48 := rfl
theorem ly_6 : lay 6 = cO 2 [f_ 3, f_ 7] := rfl
theorem ly_7 : lay 7 = cA 5 := rfl
theorem ly_8 : lay 8 = cO 2 [f_ 3, f_ 9] := rfl
theorem ly_9 : lay 9 = cA 5 := rfl
theorem ly_10 : lay 10 = cO 6 [f_ 3, f_ 11, f_ 19, fi, fi] := rfl
theorem ly_11 : lay 11 = cR 7 12 := rfl
theorem ly_12 : lay 12 = cA 28 := rfl
theorem ly_13 : lay 13 = cA 28 := rfl
theorem ly_14 : lay 14 = cA 28 := rfl
theorem ly_15 : lay 15 = cA 28 := rfl
theorem ly_16 : lay 16 = cA 28 := rfl
theorem ly_17 : lay 17 = cA 28 := rfl
theorem ly_18 : lay 18 = cA 28 := rfl
theorem ly_19 : lay 19 = cA 6 := rfl
theorem ly_20 : lay 20 = cO 7 [f_ 3, f_ 8, f_ 10] := rfl
theorem ly_21 : lay 21 = cO 8 [f_ 22, fi] := rfl
theorem ly_22 : lay 22 = cA 5 := rfl
theorem ly_23 : lay 23 = cO 0 [f_ 24, fi] := rfl
theorem ly_24 : lay 24 = cR 14 25 := rfl
theorem ly_25 : lay 25 = cA 5 := rfl
theorem ly_26 : lay 26 = cA 5 := rfl
theorem ly_27 : lay 27 = cA 5 := rfl
theorem ly_28 : lay 28 = cA 5 := rfl
theorem ly_29 : lay 29 = cA 5 := rfl
theorem ly_30 : lay 30 = cA 5 := rfl
theorem ly_31 : lay 31 = cA 5 := rfl
theorem ly_32 : lay 32 = cA 5 := rfl
theorem ly_33 : lay 33 = cA 5 := rfl
theorem ly_34 : lay 34 = cA 5 := rfl
theorem ly_35 : lay 35 = cA 5 := rfl
theorem ly_36 : lay 36 = cA 5 := rfl
theorem ly_37 : lay 37 = cA 5 := rfl
theorem ly_38 : lay 38 = cA 5 := rfl
theorem ly_39 : lay 39 = cO 4 [f_ 40, f_ 43] := rfl
theorem ly_40 : lay 40 = cR 2 41 := rfl
theorem ly_41 : lay 41 = cA 5 := rfl
theorem ly_42 : lay 42 = cA 5 := rfl
theorem ly_43 : lay 43 = cB 2 := rfl
theorem ly_44 : lay 44 = cO 5 [f_ 45, f_ 46, f_ 47, fi] := rfl
theorem ly_45 : lay 45 = cA 6 := rfl
theorem ly_46 : lay 46 = cA 6 := rfl
theorem ly_47 : lay 47 = cB 6 := rfl
theorem ly_48 : lay 48 = cA 4 := rfl
theorem ly_49 : lay 49 = cA 4 := rfl
theorem ly_50 : lay 50 = cA 4 := rfl
theorem ly_51 : lay 51 = cO 10 [fi, f_ 52, f_ 53, f_ 54, f_ 55, f_ 56, fi, f_ 57, fi, fi, f_ 58, fi, fi, f_ 59, fi, f_ 60, f_ 61, f_ 62, fl_, f_ 63, f_ 64] := rfl
theorem ly_52 : lay 52 = cA 6 := rfl
theorem ly_53 : lay 53 = cA 48 := rfl
theorem ly_54 : lay 54 = cA 10 := rfl
theorem ly_55 : lay 55 = cA 6 := rfl
theorem ly_56 : lay 56 = cA 48 := rfl
theorem ly_57 : lay 57 = cA 64 := rfl
theorem ly_58 : lay 58 = cA 5 := rfl
theorem ly_59 : lay 59 = cA 70 := rfl
theorem ly_60 : lay 60 = cA 6 := rfl
theorem ly_61 : lay 61 = cA 6 := rfl
theorem ly_62 : lay 62 = cA 6 := rfl
theorem ly_63 : lay 63 = cB 2 := rfl
theorem ly_64 : lay 64 = cA 10 := rfl
theorem gr_lay {k : Nat} (h : k = 6 ∨ k = 8) : lay k = cO 2 [f_ 3, f_ (k + 1)] ∧ lay (k + 1) = cA 5 ∧ k < 65 ∧ k + 1 < 65 := by
  rcases h with rfl | rfl <;> exact ⟨rfl, rfl, Nat.le_of_ble_eq_true rfl, Nat.le_of_ble_eq_true rfl⟩
theorem ix {i m : Int} {n : Nat} (h : 0 ≤ i ∧ i < m) (e : m = (n : Int)) : 0 ≤ i ∧ i < (n : Int) := ⟨h.1, by rw [← e]; exact h.2⟩
theorem rb_11 : ∀ n, n < 7 → lay (12 + n) = cA 28 ∧ 12 + n < 65 := fun n hn => by
  have h : n ∈ List.range 7 := List.mem_range.mpr hn
  simp only [List.range, List.range.loop, List.mem_cons, List.not_mem_nil, or_false] at h
  rcases h with rfl | rfl | rfl | rfl | rfl | rfl | rfl <;> exact ⟨rfl, Nat.le_of_ble_eq_true rfl⟩
theorem ra_11 {i : Int} (h : 0 ≤ i ∧ i < ((7 : Nat) : Int)) : lay (12 + i.toNat) = cA 28 ∧ 12 + i.toNat < 65 := rb_11 i.toNat (by omega)
theorem rb_24 : ∀ n, n < 14 → lay (25 + n) = cA 5 ∧ 25 + n < 65 := fun n hn => by
  have h : n ∈ List.range 14 := List.mem_range.mpr hn
  simp only [List.range, List.range.loop, List.mem_cons, List.not_mem_nil, or_false] at h
  rcases h with rfl | rfl | rfl | rfl | rfl | rfl | rfl | rfl | rfl | rfl | rfl | rfl | rfl | rfl <;> exact ⟨rfl, Nat.le_of_ble_eq_true rfl⟩
theorem ra_24 {i : Int} (h : 0 ≤ i ∧ i < ((14 : Nat) : Int)) : lay (25 + i.toNat) = cA 5 ∧ 25 + i.toNat < 65 := rb_24 i.toNat (by omega)
theorem rb_40 : ∀ n, n < 2 → lay (41 + n) = cA 5 ∧ 41 + n < 65 := fun n hn => by
  have h : n ∈ List.range 2 := List.mem_range.mpr hn
  simp only [List.range, List.range.loop, List.mem_cons, List.not_mem_nil, or_false] at h
  rcases h with rfl | rfl <;> exact ⟨rfl, Nat.le_of_ble_eq_true rfl⟩
theorem ra_40 {i : Int} (h : 0 ≤ i ∧ i < ((2 : Nat) : Int)) : lay (41 + i.toNat) = cA 5 ∧ 41 + i.toNat < 65 := rb_40 i.toNat (by omega)
theorem x_sub {p : Program} {l : Launch} {e : Env} {R : Room} {s : State} {m : MethodId} {args : Array Value} {below : List Frame} {meth : Method} {c : Code} {ad : Nat → Nat} {D : va_G} {cI cZ cG : ClassId} {A : Nat → Prop} {nL kc ks : Nat} {Q : State → Prop} {σ : GS} {pc : Nat} {lv lv' : List (Nat × Value)} {st : List Value} (js : List Nat) (hj : lv_pick lv js = lv') (kk : V p l e R s m args below meth c ad D cI cZ cG A nL kc ks Q σ pc lv' st) : V p l e R s m args below meth c ad D cI cZ cG A nL kc ks Q σ pc lv st := fun H locs ls hP hS hl => kk H locs ls hP hS (lv_sub hl js hj)
theorem ck_RL_13 : CallOK RL 13 yX9_write cX9_write 2 (some .int) 1 := ⟨t1_213, t1_1, t1_216, by decide +kernel⟩
theorem ck_RL_17 : CallOK RL 17 yX10_write cX10_write 2 (some .int) 1 := ⟨t4_27, t1_12, t4_30, by decide +kernel⟩
theorem ck_RL_18 : CallOK RL 18 yX9_wipe cX9_wipe 2 (some .int) 0 := ⟨t1_225, t1_1, t1_228, by decide +kernel⟩
theorem ck_RL_22 : CallOK RL 22 yX10_wipe cX10_wipe 2 (some .int) 0 := ⟨t4_35, t1_12, t4_38, by decide +kernel⟩
theorem ck_RL_23 : CallOK RL 23 yX9_fault cX9_fault 1 (some .int) 0 := ⟨t1_233, t1_1, t1_236, by decide +kernel⟩
theorem ck_RL_26 : CallOK RL 26 yX10_fault cX10_fault 1 (some .int) 0 := ⟨t4_39, t1_12, t4_42, by decide +kernel⟩
theorem ck_RL_27 : CallOK RL 27 yX9_fan cX9_fan 1 (some .int) 0 := ⟨t2_7, t1_1, t2_10, by decide +kernel⟩
theorem ck_RL_30 : CallOK RL 30 yX10_fan cX10_fan 2 (some .int) 0 := ⟨t4_51, t1_12, t4_54, by decide +kernel⟩
theorem ck_RL_33 : CallOK RL 33 yX9_word cX9_word 5 (some .int) 2 := ⟨t2_40, t1_1, t2_43, by decide +kernel⟩
theorem ck_RL_37 : CallOK RL 37 yX10_word cX10_word 6 (some .int) 2 := ⟨t4_55, t1_12, t4_58, by decide +kernel⟩
theorem ck_RL_38 : CallOK RL 38 yX9_blade cX9_blade 3 (some .int) 2 := ⟨t2_70, t1_1, t2_73, by decide +kernel⟩
theorem ck_RL_42 : CallOK RL 42 yX10_blade cX10_blade 3 (some .int) 2 := ⟨t4_65, t1_12, t4_68, by decide +kernel⟩
theorem ck_RL_43 : CallOK RL 43 yX9_look cX9_look 4 (some .int) 3 := ⟨t2_149, t1_1, t2_152, by decide +kernel⟩
theorem ck_RL_47 : CallOK RL 47 yX10_look cX10_look 5 (some .int) 3 := ⟨t4_104, t1_12, t4_107, by decide +kernel⟩
theorem ck_RL_48 : CallOK RL 48 yX9_spread cX9_spread 2 (some .int) 1 := ⟨t2_166, t1_1, t2_169, by decide +kernel⟩
theorem ck_RL_51 : CallOK RL 51 yX10_spread cX10_spread 2 (some .int) 1 := ⟨t4_113, t1_12, t4_116, by decide +kernel⟩
theorem ck_RL_52 : CallOK RL 52 yX9_fold cX9_fold 2 (some .int) 1 := ⟨t2_197, t1_1, t2_200, by decide +kernel⟩
theorem ck_RL_55 : CallOK RL 55 yX10_fold cX10_fold 2 (some .int) 1 := ⟨t4_129, t1_12, t4_132, by decide +kernel⟩
theorem ck_RL_56 : CallOK RL 56 yX9_fling cX9_fling 1 (some .int) 0 := ⟨t2_210, t1_1, t2_213, by decide +kernel⟩
theorem ck_RL_59 : CallOK RL 59 yX10_fling cX10_fling 1 (some .int) 0 := ⟨t4_137, t1_12, t4_140, by decide +kernel⟩
theorem ck_RL_60 : CallOK RL 60 yX9_snap cX9_snap 2 (some .int) 0 := ⟨t2_219, t1_1, t2_222, by decide +kernel⟩
theorem ck_RL_63 : CallOK RL 63 yX10_snap cX10_snap 2 (some .int) 0 := ⟨t4_145, t1_12, t4_148, by decide +kernel⟩
theorem ck_RL_64 : CallOK RL 64 yX9_undo cX9_undo 1 (some .int) 0 := ⟨t2_228, t1_1, t2_231, by decide +kernel⟩
theorem ck_RL_67 : CallOK RL 67 yX10_undo cX10_undo 2 (some .int) 0 := ⟨t4_157, t1_12, t4_160, by decide +kernel⟩
theorem ck_RL_68 : CallOK RL 68 yX9_reads cX9_reads 2 (some .int) 1 := ⟨t3_4, t1_1, t3_7, by decide +kernel⟩
theorem ck_RL_71 : CallOK RL 71 yX10_reads cX10_reads 2 (some .int) 1 := ⟨t4_161, t1_12, t4_164, by decide +kernel⟩
theorem ck_RL_72 : CallOK RL 72 yX9_open cX9_open 8 (some .int) 2 := ⟨t3_22, t1_1, t3_25, by decide +kernel⟩
theorem ck_RL_75 : CallOK RL 75 yX10_open cX10_open 8 (some .int) 2 := ⟨t4_173, t1_12, t4_176, by decide +kernel⟩
theorem ck_RL_76 : CallOK RL 76 yX9_most cX9_most 8 (some .int) 2 := ⟨t3_60, t1_1, t3_63, by decide +kernel⟩
theorem ck_RL_79 : CallOK RL 79 yX10_most cX10_most 7 (some .int) 2 := ⟨t4_193, t1_12, t4_196, by decide +kernel⟩
theorem ck_RL_80 : CallOK RL 80 yX9_judge cX9_judge 8 (some .int) 2 := ⟨t3_70, t1_1, t3_73, by decide +kernel⟩
theorem ck_RL_83 : CallOK RL 83 yX10_judge cX10_judge 6 (some .int) 2 := ⟨t4_201, t1_12, t4_204, by decide +kernel⟩
theorem ck_RL_84 : CallOK RL 84 yX9_spy cX9_spy 4 (some .int) 3 := ⟨t3_87, t1_1, t3_90, by decide +kernel⟩
theorem ck_RL_87 : CallOK RL 87 yX10_spy cX10_spy 4 (some .int) 3 := ⟨t4_222, t1_12, t4_225, by decide +kernel⟩
theorem ck_RL_88 : CallOK RL 88 yX9_unspy cX9_unspy 2 (some .int) 0 := ⟨t3_99, t1_1, t3_102, by decide +kernel⟩
theorem ck_RL_91 : CallOK RL 91 yX10_unspy cX10_unspy 2 (some .int) 0 := ⟨t4_226, t1_12, t4_229, by decide +kernel⟩
theorem ck_RL_92 : CallOK RL 92 yX9_gaps cX9_gaps 6 (some .int) 1 := ⟨t3_107, t1_1, t3_110, by decide +kernel⟩
theorem ck_RL_95 : CallOK RL 95 yX10_gaps cX10_gaps 5 (some .int) 1 := ⟨t4_230, t1_12, t4_233, by decide +kernel⟩
theorem ck_RL_96 : CallOK RL 96 yX9_share cX9_share 6 (some .int) 2 := ⟨t3_116, t1_1, t3_119, by decide +kernel⟩
theorem ck_RL_100 : CallOK RL 100 yX10_share cX10_share 6 (some .int) 2 := ⟨t4_238, t1_12, t5_1, by decide +kernel⟩
theorem ck_RL_101 : CallOK RL 101 yX9_rests cX9_rests 7 (some .int) 3 := ⟨t3_131, t1_1, t3_134, by decide +kernel⟩
theorem ck_RL_104 : CallOK RL 104 yX10_rests cX10_rests 7 (some .int) 3 := ⟨t5_15, t1_12, t5_18, by decide +kernel⟩
theorem ck_RL_105 : CallOK RL 105 yX9_drops cX9_drops 8 (some .int) 3 := ⟨t3_139, t1_1, t3_142, by decide +kernel⟩
theorem ck_RL_109 : CallOK RL 109 yX10_drops cX10_drops 9 (some .int) 3 := ⟨t5_27, t1_12, t5_30, by decide +kernel⟩
theorem ck_RL_110 : CallOK RL 110 yX9_seed cX9_seed 5 (some .long) 1 := ⟨t3_151, t1_1, t3_154, by decide +kernel⟩
theorem ck_RL_114 : CallOK RL 114 yX10_seed cX10_seed 5 (some .long) 1 := ⟨t5_32, t1_12, t5_35, by decide +kernel⟩
theorem ck_RL_115 : CallOK RL 115 yX9_years cX9_years 4 (some .int) 1 := ⟨t3_155, t1_1, t3_158, by decide +kernel⟩
theorem ck_RL_118 : CallOK RL 118 yX10_years cX10_years 5 (some .int) 1 := ⟨t5_36, t1_12, t5_39, by decide +kernel⟩
theorem ck_RL_119 : CallOK RL 119 yX9_keep cX9_keep 2 (some .int) 1 := ⟨t3_166, t1_1, t3_169, by decide +kernel⟩
theorem ck_RL_122 : CallOK RL 122 yX10_keep cX10_keep 3 (some .int) 1 := ⟨t5_44, t1_12, t5_47, by decide +kernel⟩
theorem ck_RL_123 : CallOK RL 123 yX9_again cX9_again 2 (some .int) 1 := ⟨t3_179, t1_1, t3_182, by decide +kernel⟩
theorem ck_RL_126 : CallOK RL 126 yX10_again cX10_again 3 (some .int) 1 := ⟨t5_48, t1_12, t5_51, by decide +kernel⟩
theorem ck_RL_127 : CallOK RL 127 yX9_count cX9_count 2 (some .int) 1 := ⟨t3_189, t1_1, t3_192, by decide +kernel⟩
theorem ck_RL_130 : CallOK RL 130 yX10_count cX10_count 2 (some .int) 1 := ⟨t5_52, t1_12, t5_55, by decide +kernel⟩
theorem fk_RX0_11 : FldOK RX0 11 0 0 RX0 TX0 2 := ⟨rfl, Nat.le_of_ble_eq_true rfl, inX0, t1_129⟩
theorem fk_RX0_16 : FldOK RX0 16 0 1 RX0 TX0 2 := ⟨rfl, Nat.le_of_ble_eq_true rfl, inX0, t1_130⟩
theorem ck_RX0_20 : CallOK RX0 20 yX0_forgetFirst cX0_forgetFirst 2 none 0 := ⟨t2_182, t1_9, t2_185, by decide +kernel⟩
theorem ck_RX0_23 : CallOK RX0 23 yX2_copyTo cX2_copyTo 2 none 1 := ⟨t2_187, t1_4, t2_190, by decide +kernel⟩
theorem ck_RX0_35 : CallOK RX0 35 yX2_copyBack cX2_copyBack 2 none 1 := ⟨t2_236, t1_4, t2_239, by decide +kernel⟩
theorem fk_RX1_9 : FldOK RX1 9 1 0 RX1 TX1 3 := ⟨rfl, Nat.le_of_ble_eq_true rfl, inX1, t1_43⟩
theorem fk_RX1_15 : FldOK RX1 15 1 1 RX1 TX1 3 := ⟨rfl, Nat.le_of_ble_eq_true rfl, inX1, t1_44⟩
theorem ck_RX1_18 : CallOK RX1 18 yX3_length cX3_length 1 (some .int) 0 := ⟨t2_15, t1_2, t1_224, by decide +kernel⟩
theorem fk_RX1_30 : FldOK RX1 30 1 2 RX1 TX1 3 := ⟨rfl, Nat.le_of_ble_eq_true rfl, inX1, t1_45⟩
theorem ck_RX1_34 : CallOK RX1 34 yX3_at cX3_at 2 (some .int) 1 := ⟨t2_19, t1_2, t2_22, by decide +kernel⟩
theorem ck_RX1_38 : CallOK RX1 38 yX1_kindOf cX1_kindOf 2 (some .int) 1 := ⟨t2_90, t1_3, t2_81, by decide +kernel⟩
theorem fk_RX10_7 : FldOK RX10 7 10 1 RX10 TX10 21 := ⟨rfl, Nat.le_of_ble_eq_true rfl, inX10, t3_204⟩
theorem fk_RX10_13 : FldOK RX10 13 10 2 RX10 TX10 21 := ⟨rfl, Nat.le_of_ble_eq_true rfl, inX10, t3_205⟩
theorem fk_RX10_16 : FldOK RX10 16 10 3 RX10 TX10 21 := ⟨rfl, Nat.le_of_ble_eq_true rfl, inX10, t3_206⟩
theorem fk_RX10_19 : FldOK RX10 19 10 4 RX10 TX10 21 := ⟨rfl, Nat.le_of_ble_eq_true rfl, inX10, t3_207⟩
theorem fk_RX10_22 : FldOK RX10 22 10 5 RX10 TX10 21 := ⟨rfl, Nat.le_of_ble_eq_true rfl, inX10, t3_208⟩
theorem fk_RX10_25 : FldOK RX10 25 10 7 RX10 TX10 21 := ⟨rfl, Nat.le_of_ble_eq_true rfl, inX10, t3_210⟩
theorem fk_RX10_28 : FldOK RX10 28 10 10 RX10 TX10 21 := ⟨rfl, Nat.le_of_ble_eq_true rfl, inX10, t3_213⟩
theorem fk_RX10_31 : FldOK RX10 31 10 13 RX10 TX10 21 := ⟨rfl, Nat.le_of_ble_eq_true rfl, inX10, t3_216⟩
theorem fk_RX10_34 : FldOK RX10 34 10 15 RX10 TX10 21 := ⟨rfl, Nat.le_of_ble_eq_true rfl, inX10, t3_218⟩
theorem fk_RX10_37 : FldOK RX10 37 10 16 RX10 TX10 21 := ⟨rfl, Nat.le_of_ble_eq_true rfl, inX10, t3_219⟩
theorem fk_RX10_40 : FldOK RX10 40 10 17 RX10 TX10 21 := ⟨rfl, Nat.le_of_ble_eq_true rfl, inX10, t3_220⟩
theorem fk_RX10_43 : FldOK RX10 43 10 19 RX10 TX10 21 := ⟨rfl, Nat.le_of_ble_eq_true rfl, inX10, t3_222⟩
theorem fk_RX10_47 : FldOK RX10 47 10 20 RX10 TX10 21 := ⟨rfl, Nat.le_of_ble_eq_true rfl, inX10, t3_223⟩
theorem ck_RX10_52 : CallOK RX10 52 yX10_in cX10_in 6 (some .boolean) 3 := ⟨t4_32, t1_12, t4_34, by decide +kernel⟩
theorem fk_RX10_56 : FldOK RX10 56 10 8 RX10 TX10 21 := ⟨rfl, Nat.le_of_ble_eq_true rfl, inX10, t3_211⟩
theorem fk_RX10_60 : FldOK RX10 60 10 6 RX10 TX10 21 := ⟨rfl, Nat.le_of_ble_eq_true rfl, inX10, t3_209⟩
theorem ck_RX10_71 : CallOK RX10 71 yX10_readText cX10_readText 4 (some .int) 0 := ⟨t4_43, t1_12, t4_46, by decide +kernel⟩
theorem fk_RX10_75 : FldOK RX10 75 10 0 RX10 TX10 21 := ⟨rfl, Nat.le_of_ble_eq_true rfl, inX10, t3_203⟩
theorem fk_RX10_78 : FldOK RX10 78 10 11 RX10 TX10 21 := ⟨rfl, Nat.le_of_ble_eq_true rfl, inX10, t3_214⟩
theorem ck_RX10_81 : CallOK RX10 81 yX10_gapMany cX10_gapMany 1 (some .int) 0 := ⟨t4_100, t1_12, t4_103, by decide +kernel⟩
theorem ck_RX10_88 : CallOK RX10 88 yX10_hundredTo cX10_hundredTo 4 (some .long) 1 := ⟨t4_60, t1_12, t4_62, by decide +kernel⟩
theorem fk_RX10_94 : FldOK RX10 94 10 9 RX10 TX10 21 := ⟨rfl, Nat.le_of_ble_eq_true rfl, inX10, t3_212⟩
theorem ck_RX10_97 : CallOK RX10 97 yX10_beginOf cX10_beginOf 5 (some .int) 2 := ⟨t4_73, t1_12, t4_76, by decide +kernel⟩
theorem ck_RX10_101 : CallOK RX10 101 yX10_wideOf cX10_wideOf 2 (some .int) 1 := ⟨t4_77, t1_12, t4_80, by decide +kernel⟩
theorem ck_RX10_105 : CallOK RX10 105 yX10_has cX10_has 2 (some .boolean) 2 := ⟨t4_89, t1_12, t4_91, by decide +kernel⟩
theorem ck_RX10_109 : CallOK RX10 109 yX10_cellAt cX10_cellAt 5 (some .int) 3 := ⟨t4_92, t1_12, t4_95, by decide +kernel⟩
theorem ck_RX10_115 : CallOK RX10 115 yX10_bladeAt cX10_bladeAt 8 (some .int) 4 := ⟨t4_85, t1_12, t4_88, by decide +kernel⟩
theorem ck_RX10_119 : CallOK RX10 119 yX10_letterAt cX10_letterAt 6 (some .int) 4 := ⟨t4_109, t1_12, t4_112, by decide +kernel⟩
theorem ck_RX10_122 : CallOK RX10 122 yX10_isReadAt cX10_isReadAt 7 (some .boolean) 4 := ⟨t4_169, t1_12, t4_172, by decide +kernel⟩
theorem ck_RX10_126 : CallOK RX10 126 yX10_isBlade cX10_isBlade 2 (some .boolean) 1 := ⟨t4_69, t1_12, t4_72, by decide +kernel⟩
theorem ck_RX10_130 : CallOK RX10 130 yX10_cellsSeen cX10_cellsSeen 6 (some .int) 3 := ⟨t4_81, t1_12, t4_84, by decide +kernel⟩
theorem ck_RX10_133 : CallOK RX10 133 yX10_isGap cX10_isGap 2 (some .boolean) 1 := ⟨t4_96, t1_12, t4_99, by decide +kernel⟩
theorem fk_RX10_136 : FldOK RX10 136 10 12 RX10 TX10 21 := ⟨rfl, Nat.le_of_ble_eq_true rfl, inX10, t3_215⟩
theorem ck_RX10_139 : CallOK RX10 139 yX10_isFree cX10_isFree 2 (some .boolean) 1 := ⟨t4_121, t1_12, t4_124, by decide +kernel⟩
theorem ck_RX10_142 : CallOK RX10 142 yX10_canSpread cX10_canSpread 3 (some .boolean) 2 := ⟨t4_117, t1_12, t4_120, by decide +kernel⟩
theorem ck_RX10_145 : CallOK RX10 145 yX10_keepAct cX10_keepAct 2 none 0 := ⟨t4_125, t1_12, t4_128, by decide +kernel⟩
theorem ck_RX10_148 : CallOK RX10 148 yX10_canFold cX10_canFold 3 (some .boolean) 2 := ⟨t4_133, t1_12, t4_136, by decide +kernel⟩
theorem ck_RX10_151 : CallOK RX10 151 yX10_flingOn cX10_flingOn 5 (some .int) 1 := ⟨t4_141, t1_12, t4_144, by decide +kernel⟩
theorem ck_RX10_154 : CallOK RX10 154 yX10_gapsOf cX10_gapsOf 4 (some .int) 1 := ⟨t4_149, t1_12, t4_152, by decide +kernel⟩
theorem ck_RX10_157 : CallOK RX10 157 yX10_snapOn cX10_snapOn 3 none 1 := ⟨t4_153, t1_12, t4_156, by decide +kernel⟩
theorem ck_RX10_161 : CallOK RX10 161 yX10_readsOn cX10_readsOn 6 (some .int) 3 := ⟨t4_165, t1_12, t4_168, by decide +kernel⟩
theorem ck_RX10_164 : CallOK RX10 164 yX10_waysMany cX10_waysMany 3 (some .int) 0 := ⟨t4_177, t1_12, t4_180, by decide +kernel⟩
theorem ck_RX10_167 : CallOK RX10 167 yX10_layWay cX10_layWay 5 (some .boolean) 1 := ⟨t4_181, t1_12, t4_184, by decide +kernel⟩
theorem ck_RX10_170 : CallOK RX10 170 yX10_farOf cX10_farOf 4 (some .int) 0 := ⟨t4_185, t1_12, t4_188, by decide +kernel⟩
theorem ck_RX10_173 : CallOK RX10 173 yX10_figuresOf cX10_figuresOf 4 (some .int) 1 := ⟨t4_189, t1_12, t4_192, by decide +kernel⟩
theorem ck_RX10_176 : CallOK RX10 176 yX10_timesSeen cX10_timesSeen 4 (some .int) 1 := ⟨t4_197, t1_12, t4_200, by decide +kernel⟩
theorem ck_RX10_179 : CallOK RX10 179 yX10_wide cX10_wide 4 (some .int) 1 := ⟨t4_218, t1_12, t4_221, by decide +kernel⟩
theorem ck_RX10_186 : CallOK RX10 186 yX10_thousandTo cX10_thousandTo 4 (some .long) 1 := ⟨t4_206, t1_12, t4_208, by decide +kernel⟩
theorem ck_RX10_189 : CallOK RX10 189 yX10_layTrial cX10_layTrial 2 none 0 := ⟨t4_210, t1_12, t4_213, by decide +kernel⟩
theorem ck_RX10_192 : CallOK RX10 192 yX10_tryThing cX10_tryThing 6 (some .boolean) 3 := ⟨t4_214, t1_12, t4_217, by decide +kernel⟩
theorem fk_RX10_196 : FldOK RX10 196 10 14 RX10 TX10 21 := ⟨rfl, Nat.le_of_ble_eq_true rfl, inX10, t3_217⟩
theorem ck_RX10_199 : CallOK RX10 199 yX10_mayBe cX10_mayBe 3 (some .boolean) 0 := ⟨t4_234, t1_12, t4_237, by decide +kernel⟩
theorem ck_RX10_203 : CallOK RX10 203 yX10_ones cX10_ones 3 (some .int) 1 := ⟨t5_2, t1_12, t5_4, by decide +kernel⟩
theorem ck_RX10_206 : CallOK RX10 206 yX10_factorial cX10_factorial 3 (some .int) 1 := ⟨t5_5, t1_12, t5_7, by decide +kernel⟩
theorem ck_RX10_209 : CallOK RX10 209 yX10_placesSeen cX10_placesSeen 5 (some .int) 2 := ⟨t5_8, t1_12, t5_11, by decide +kernel⟩
theorem ck_RX10_212 : CallOK RX10 212 yX10_common cX10_common 5 (some .int) 2 := ⟨t5_12, t1_12, t5_14, by decide +kernel⟩
theorem ck_RX10_215 : CallOK RX10 215 yX10_gain cX10_gain 5 (some .int) 4 := ⟨t5_23, t1_12, t5_26, by decide +kernel⟩
theorem ck_RX10_218 : CallOK RX10 218 yX10_isRest cX10_isRest 5 (some .boolean) 4 := ⟨t5_19, t1_12, t5_22, by decide +kernel⟩
theorem fk_RX10_223 : FldOK RX10 223 10 18 RX10 TX10 21 := ⟨rfl, Nat.le_of_ble_eq_true rfl, inX10, t3_221⟩
theorem fk_RX2_9 : FldOK RX2 9 2 1 RX2 TX2 2 := ⟨rfl, Nat.le_of_ble_eq_true rfl, inX2, t1_60⟩
theorem fk_RX2_15 : FldOK RX2 15 2 0 RX2 TX2 2 := ⟨rfl, Nat.le_of_ble_eq_true rfl, inX2, t1_59⟩
theorem ck_RX2_19 : CallOK RX2 19 yX1_canPart cX1_canPart 2 (some .boolean) 1 := ⟨t2_174, t1_3, t2_177, by decide +kernel⟩
theorem ck_RX2_25 : CallOK RX2 25 yX2_canWiden cX2_canWiden 2 (some .boolean) 1 := ⟨t2_196, t1_4, t2_173, by decide +kernel⟩
theorem ck_RX2_28 : CallOK RX2 28 yX2_canNarrow cX2_canNarrow 2 (some .boolean) 1 := ⟨t2_209, t1_4, t2_204, by decide +kernel⟩
theorem ck_RX2_31 : CallOK RX2 31 yX2_widen cX2_widen 2 (some .boolean) 1 := ⟨t2_218, t1_4, t2_195, by decide +kernel⟩
theorem ck_RX2_34 : CallOK RX2 34 yJ7_fill_53178 cJ7_fill_53178 4 none 2 := ⟨t2_27, t1_6, t1_76, by decide +kernel⟩
theorem ck_RX2_40 : CallOK RX2 40 yX2_sumAhead cX2_sumAhead 4 (some .int) 1 := ⟨t2_227, t1_4, t2_85, by decide +kernel⟩
theorem ck_RX2_44 : CallOK RX2 44 yX1_hasGap cX1_hasGap 2 (some .boolean) 1 := ⟨t3_48, t1_3, t2_147, by decide +kernel⟩
theorem fk_RX3_9 : FldOK RX3 9 3 0 RX3 TX3 2 := ⟨rfl, Nat.le_of_ble_eq_true rfl, inX3, t1_29⟩
theorem fk_RX3_15 : FldOK RX3 15 3 1 RX3 TX3 2 := ⟨rfl, Nat.le_of_ble_eq_true rfl, inX3, t1_30⟩
theorem ck_RX3_19 : CallOK RX3 19 yX3_canStand cX3_canStand 2 (some .boolean) 2 := ⟨t2_1, t1_2, t2_3, by decide +kernel⟩
theorem fk_RX4_11 : FldOK RX4 11 4 0 RX4 TX4 2 := ⟨rfl, Nat.le_of_ble_eq_true rfl, inX4, t1_143⟩
theorem fk_RX4_16 : FldOK RX4 16 4 1 RX4 TX4 2 := ⟨rfl, Nat.le_of_ble_eq_true rfl, inX4, t1_144⟩
theorem ck_RX4_20 : CallOK RX4 20 yX4_has cX4_has 2 (some .boolean) 1 := ⟨t3_174, t1_10, t3_177, by decide +kernel⟩
theorem ck_RX4_24 : CallOK RX4 24 yX2_copyTo cX2_copyTo 2 none 1 := ⟨t3_178, t1_4, t2_190, by decide +kernel⟩
theorem ck_RX4_30 : CallOK RX4 30 yX2_copyBack cX2_copyBack 2 none 1 := ⟨t3_188, t1_4, t2_239, by decide +kernel⟩
theorem fk_RX5_9 : FldOK RX5 9 5 0 RX5 TX5 4 := ⟨rfl, Nat.le_of_ble_eq_true rfl, inX5, t1_157⟩
theorem fk_RX5_15 : FldOK RX5 15 5 1 RX5 TX5 4 := ⟨rfl, Nat.le_of_ble_eq_true rfl, inX5, t1_158⟩
theorem fk_RX5_18 : FldOK RX5 18 5 2 RX5 TX5 4 := ⟨rfl, Nat.le_of_ble_eq_true rfl, inX5, t1_159⟩
theorem fk_RX5_22 : FldOK RX5 22 5 3 RX5 TX5 4 := ⟨rfl, Nat.le_of_ble_eq_true rfl, inX5, t1_160⟩
theorem ck_RX5_26 : CallOK RX5 26 yX6_letterAt cX6_letterAt 2 (some .int) 1 := ⟨t3_115, t1_5, t2_160, by decide +kernel⟩
theorem fk_RX6_11 : FldOK RX6 11 6 1 RX6 TX6 5 := ⟨rfl, Nat.le_of_ble_eq_true rfl, inX6, t1_78⟩
theorem fk_RX6_16 : FldOK RX6 16 6 2 RX6 TX6 5 := ⟨rfl, Nat.le_of_ble_eq_true rfl, inX6, t1_79⟩
theorem fk_RX6_20 : FldOK RX6 20 6 0 RX6 TX6 5 := ⟨rfl, Nat.le_of_ble_eq_true rfl, inX6, t1_77⟩
theorem ck_RX6_24 : CallOK RX6 24 yJ7_fill_53178 cJ7_fill_53178 4 none 2 := ⟨t1_74, t1_6, t1_76, by decide +kernel⟩
theorem fk_RX6_30 : FldOK RX6 30 6 3 RX6 TX6 5 := ⟨rfl, Nat.le_of_ble_eq_true rfl, inX6, t1_80⟩
theorem ck_RX6_34 : CallOK RX6 34 yX6_layFrom cX6_layFrom 5 none 3 := ⟨t2_95, t1_5, t2_98, by decide +kernel⟩
theorem ck_RX6_38 : CallOK RX6 38 yX1_size cX1_size 1 (some .int) 0 := ⟨t2_99, t1_3, t2_39, by decide +kernel⟩
theorem fk_RX6_44 : FldOK RX6 44 6 4 RX6 TX6 5 := ⟨rfl, Nat.le_of_ble_eq_true rfl, inX6, t1_81⟩
theorem ck_RX6_53 : CallOK RX6 53 yX2_at cX2_at 2 (some .int) 1 := ⟨t2_101, t1_4, t2_104, by decide +kernel⟩
theorem ck_RX6_65 : CallOK RX6 65 yX6_lay cX6_lay 5 none 2 := ⟨t2_108, t1_5, t2_111, by decide +kernel⟩
theorem ck_RX6_73 : CallOK RX6 73 yX1_isSolid cX1_isSolid 3 (some .boolean) 2 := ⟨t2_115, t1_3, t2_118, by decide +kernel⟩
theorem ck_RX6_77 : CallOK RX6 77 yX6_liesUpper cX6_liesUpper 2 (some .boolean) 1 := ⟨t2_119, t1_5, t2_122, by decide +kernel⟩
theorem ck_RX6_80 : CallOK RX6 80 yX1_markOf cX1_markOf 4 (some .int) 3 := ⟨t2_123, t1_3, t2_126, by decide +kernel⟩
theorem ck_RX6_87 : CallOK RX6 87 yX6_markAt cX6_markAt 2 (some .int) 1 := ⟨t2_140, t1_5, t2_143, by decide +kernel⟩
theorem ck_RX6_90 : CallOK RX6 90 yX1_letterOf cX1_letterOf 2 (some .int) 1 := ⟨t2_161, t1_3, t2_164, by decide +kernel⟩
theorem ck_RX6_93 : CallOK RX6 93 yX6_reach cX6_reach 1 (some .int) 0 := ⟨t2_131, t1_5, t2_134, by decide +kernel⟩
theorem ck_RX6_96 : CallOK RX6 96 yX6_bladeAt cX6_bladeAt 3 (some .int) 1 := ⟨t2_136, t1_5, t2_139, by decide +kernel⟩
theorem ck_RX6_99 : CallOK RX6 99 yX6_letterAt cX6_letterAt 2 (some .int) 1 := ⟨t3_69, t1_5, t2_160, by decide +kernel⟩
theorem fk_RX7_9 : FldOK RX7 9 7 0 RX7 TX7 3 := ⟨rfl, Nat.le_of_ble_eq_true rfl, inX7, t1_99⟩
theorem fk_RX7_15 : FldOK RX7 15 7 1 RX7 TX7 3 := ⟨rfl, Nat.le_of_ble_eq_true rfl, inX7, t1_100⟩
theorem fk_RX7_19 : FldOK RX7 19 7 2 RX7 TX7 3 := ⟨rfl, Nat.le_of_ble_eq_true rfl, inX7, t1_101⟩
theorem ck_RX7_23 : CallOK RX7 23 yX2_clear cX2_clear 1 none 0 := ⟨t3_30, t1_4, t2_26, by decide +kernel⟩
theorem ck_RX7_28 : CallOK RX7 28 yX6_layAll cX6_layAll 3 none 2 := ⟨t3_31, t1_5, t2_94, by decide +kernel⟩
theorem ck_RX7_34 : CallOK RX7 34 yX1_size cX1_size 1 (some .int) 0 := ⟨t3_53, t1_3, t2_39, by decide +kernel⟩
theorem ck_RX7_40 : CallOK RX7 40 yX2_widen cX2_widen 2 (some .boolean) 1 := ⟨t3_54, t1_4, t2_195, by decide +kernel⟩
theorem ck_RX7_44 : CallOK RX7 44 yX6_layFrom cX6_layFrom 5 none 3 := ⟨t3_55, t1_5, t2_98, by decide +kernel⟩
theorem ck_RX7_48 : CallOK RX7 48 yX2_close cX2_close 2 none 1 := ⟨t3_56, t1_4, t3_59, by decide +kernel⟩
theorem fk_RX8_9 : FldOK RX8 9 8 0 RX8 TX8 2 := ⟨rfl, Nat.le_of_ble_eq_true rfl, inX8, t1_115⟩
theorem fk_RX8_15 : FldOK RX8 15 8 1 RX8 TX8 2 := ⟨rfl, Nat.le_of_ble_eq_true rfl, inX8, t1_116⟩
theorem ck_RX8_32 : CallOK RX8 32 yX8_firstRead cX8_firstRead 6 (some .int) 1 := ⟨t3_43, t1_8, t3_11, by decide +kernel⟩
theorem ck_RX8_36 : CallOK RX8 36 yX6_reach cX6_reach 1 (some .int) 0 := ⟨t3_12, t1_5, t2_134, by decide +kernel⟩
theorem ck_RX8_42 : CallOK RX8 42 yX6_side cX6_side 1 (some .int) 0 := ⟨t3_13, t1_5, t3_16, by decide +kernel⟩
theorem ck_RX8_45 : CallOK RX8 45 yX8_isReadAt cX8_isReadAt 5 (some .boolean) 3 := ⟨t3_17, t1_8, t3_20, by decide +kernel⟩
theorem ck_RX8_49 : CallOK RX8 49 yX6_letterAt cX6_letterAt 2 (some .int) 1 := ⟨t3_21, t1_5, t2_160, by decide +kernel⟩
theorem fk_RX9_12 : FldOK RX9 12 9 0 RX9 TX9 14 := ⟨rfl, Nat.le_of_ble_eq_true rfl, inX9, t1_170⟩
theorem fk_RX9_19 : FldOK RX9 19 9 1 RX9 TX9 14 := ⟨rfl, Nat.le_of_ble_eq_true rfl, inX9, t1_171⟩
theorem fk_RX9_28 : FldOK RX9 28 9 2 RX9 TX9 14 := ⟨rfl, Nat.le_of_ble_eq_true rfl, inX9, t1_172⟩
theorem fk_RX9_32 : FldOK RX9 32 9 3 RX9 TX9 14 := ⟨rfl, Nat.le_of_ble_eq_true rfl, inX9, t1_173⟩
theorem fk_RX9_38 : FldOK RX9 38 9 4 RX9 TX9 14 := ⟨rfl, Nat.le_of_ble_eq_true rfl, inX9, t1_174⟩
theorem fk_RX9_47 : FldOK RX9 47 9 5 RX9 TX9 14 := ⟨rfl, Nat.le_of_ble_eq_true rfl, inX9, t1_175⟩
theorem fk_RX9_54 : FldOK RX9 54 9 6 RX9 TX9 14 := ⟨rfl, Nat.le_of_ble_eq_true rfl, inX9, t1_176⟩
theorem fk_RX9_61 : FldOK RX9 61 9 7 RX9 TX9 14 := ⟨rfl, Nat.le_of_ble_eq_true rfl, inX9, t1_177⟩
theorem fk_RX9_68 : FldOK RX9 68 9 8 RX9 TX9 14 := ⟨rfl, Nat.le_of_ble_eq_true rfl, inX9, t1_178⟩
theorem fk_RX9_75 : FldOK RX9 75 9 9 RX9 TX9 14 := ⟨rfl, Nat.le_of_ble_eq_true rfl, inX9, t1_179⟩
theorem fk_RX9_79 : FldOK RX9 79 9 10 RX9 TX9 14 := ⟨rfl, Nat.le_of_ble_eq_true rfl, inX9, t1_180⟩
theorem fk_RX9_83 : FldOK RX9 83 9 11 RX9 TX9 14 := ⟨rfl, Nat.le_of_ble_eq_true rfl, inX9, t1_181⟩
theorem fk_RX9_86 : FldOK RX9 86 9 12 RX9 TX9 14 := ⟨rfl, Nat.le_of_ble_eq_true rfl, inX9, t1_182⟩
theorem ck_RX9_89 : CallOK RX9 89 yX3_append cX3_append 2 (some .boolean) 1 := ⟨t1_217, t1_2, t1_220, by decide +kernel⟩
theorem ck_RX9_93 : CallOK RX9 93 yX3_length cX3_length 1 (some .int) 0 := ⟨t1_221, t1_2, t1_224, by decide +kernel⟩
theorem ck_RX9_97 : CallOK RX9 97 yX3_clear cX3_clear 1 none 0 := ⟨t1_229, t1_2, t1_232, by decide +kernel⟩
theorem ck_RX9_100 : CallOK RX9 100 yX3_firstFault cX3_firstFault 2 (some .int) 0 := ⟨t1_237, t1_2, t2_0, by decide +kernel⟩
theorem ck_RX9_103 : CallOK RX9 103 yX1_take cX1_take 5 none 1 := ⟨t2_11, t1_3, t2_14, by decide +kernel⟩
theorem ck_RX9_107 : CallOK RX9 107 yX2_clear cX2_clear 1 none 0 := ⟨t2_23, t1_4, t2_26, by decide +kernel⟩
theorem ck_RX9_108 : CallOK RX9 108 yX0_clear cX0_clear 1 none 0 := ⟨t2_28, t1_9, t2_31, by decide +kernel⟩
theorem ck_RX9_109 : CallOK RX9 109 yX4_clear cX4_clear 2 none 0 := ⟨t2_32, t1_10, t2_35, by decide +kernel⟩
theorem ck_RX9_110 : CallOK RX9 110 yX1_size cX1_size 1 (some .int) 0 := ⟨t2_36, t1_3, t2_39, by decide +kernel⟩
theorem ck_RX9_113 : CallOK RX9 113 yX9_hasFigures cX9_hasFigures 3 (some .boolean) 2 := ⟨t2_44, t1_1, t2_46, by decide +kernel⟩
theorem ck_RX9_117 : CallOK RX9 117 yX9_areLetters cX9_areLetters 6 (some .boolean) 2 := ⟨t2_51, t1_1, t2_53, by decide +kernel⟩
theorem ck_RX9_121 : CallOK RX9 121 yX8_length cX8_length 1 (some .int) 0 := ⟨t2_56, t1_8, t2_59, by decide +kernel⟩
theorem ck_RX9_122 : CallOK RX9 122 yX8_take cX8_take 7 none 2 := ⟨t2_60, t1_8, t2_63, by decide +kernel⟩
theorem ck_RX9_125 : CallOK RX9 125 yX1_has cX1_has 2 (some .boolean) 1 := ⟨t2_74, t1_3, t2_77, by decide +kernel⟩
theorem ck_RX9_128 : CallOK RX9 128 yX1_kindOf cX1_kindOf 2 (some .int) 1 := ⟨t2_78, t1_3, t2_81, by decide +kernel⟩
theorem ck_RX9_132 : CallOK RX9 132 yX2_sumAhead cX2_sumAhead 4 (some .int) 1 := ⟨t2_82, t1_4, t2_85, by decide +kernel⟩
theorem ck_RX9_135 : CallOK RX9 135 yX1_widthOf cX1_widthOf 2 (some .int) 1 := ⟨t2_86, t1_3, t2_89, by decide +kernel⟩
theorem ck_RX9_138 : CallOK RX9 138 yX6_layAll cX6_layAll 3 none 2 := ⟨t2_91, t1_5, t2_94, by decide +kernel⟩
theorem ck_RX9_142 : CallOK RX9 142 yX6_cellsSeen cX6_cellsSeen 5 (some .int) 1 := ⟨t2_127, t1_5, t2_130, by decide +kernel⟩
theorem ck_RX9_145 : CallOK RX9 145 yX1_hasGap cX1_hasGap 2 (some .boolean) 1 := ⟨t2_144, t1_3, t2_147, by decide +kernel⟩
theorem ck_RX9_148 : CallOK RX9 148 yX2_at cX2_at 2 (some .int) 1 := ⟨t2_148, t1_4, t2_104, by decide +kernel⟩
theorem ck_RX9_151 : CallOK RX9 151 yX9_isPlace cX9_isPlace 1 (some .boolean) 1 := ⟨t2_153, t1_1, t2_114, by decide +kernel⟩
theorem ck_RX9_154 : CallOK RX9 154 yX9_isBit cX9_isBit 1 (some .boolean) 1 := ⟨t2_154, t1_1, t2_156, by decide +kernel⟩
theorem ck_RX9_157 : CallOK RX9 157 yX6_letterAt cX6_letterAt 2 (some .int) 1 := ⟨t2_157, t1_5, t2_160, by decide +kernel⟩
theorem ck_RX9_160 : CallOK RX9 160 yX6_bladeAt cX6_bladeAt 3 (some .int) 1 := ⟨t2_165, t1_5, t2_139, by decide +kernel⟩
theorem ck_RX9_163 : CallOK RX9 163 yX2_canWiden cX2_canWiden 2 (some .boolean) 1 := ⟨t2_170, t1_4, t2_173, by decide +kernel⟩
theorem ck_RX9_166 : CallOK RX9 166 yX0_remember cX0_remember 2 none 1 := ⟨t2_178, t1_9, t2_181, by decide +kernel⟩
theorem ck_RX9_170 : CallOK RX9 170 yX2_widen cX2_widen 2 (some .boolean) 1 := ⟨t2_192, t1_4, t2_195, by decide +kernel⟩
theorem ck_RX9_173 : CallOK RX9 173 yX2_canNarrow cX2_canNarrow 2 (some .boolean) 1 := ⟨t2_201, t1_4, t2_204, by decide +kernel⟩
theorem ck_RX9_176 : CallOK RX9 176 yX2_narrow cX2_narrow 2 (some .boolean) 1 := ⟨t2_205, t1_4, t2_208, by decide +kernel⟩
theorem ck_RX9_179 : CallOK RX9 179 yX2_widenAll cX2_widenAll 3 (some .int) 0 := ⟨t2_214, t1_4, t2_217, by decide +kernel⟩
theorem ck_RX9_182 : CallOK RX9 182 yX2_sum cX2_sum 1 (some .int) 0 := ⟨t2_223, t1_4, t2_226, by decide +kernel⟩
theorem ck_RX9_185 : CallOK RX9 185 yX0_takeBack cX0_takeBack 2 (some .boolean) 1 := ⟨t2_232, t1_9, t2_235, by decide +kernel⟩
theorem ck_RX9_189 : CallOK RX9 189 yX0_size cX0_size 1 (some .int) 0 := ⟨t3_0, t1_9, t3_3, by decide +kernel⟩
theorem ck_RX9_190 : CallOK RX9 190 yX8_firstRead cX8_firstRead 6 (some .int) 1 := ⟨t3_8, t1_8, t3_11, by decide +kernel⟩
theorem ck_RX9_194 : CallOK RX9 194 yX7_begin cX7_begin 2 none 1 := ⟨t3_26, t1_7, t3_29, by decide +kernel⟩
theorem ck_RX9_198 : CallOK RX9 198 yX2_stepsFrom cX2_stepsFrom 4 (some .int) 1 := ⟨t3_32, t1_4, t3_35, by decide +kernel⟩
theorem ck_RX9_202 : CallOK RX9 202 yX8_isRead cX8_isRead 2 (some .boolean) 1 := ⟨t3_39, t1_8, t3_42, by decide +kernel⟩
theorem ck_RX9_206 : CallOK RX9 206 yX2_figures cX2_figures 3 (some .int) 0 := ⟨t3_44, t1_4, t3_47, by decide +kernel⟩
theorem ck_RX9_209 : CallOK RX9 209 yX7_step cX7_step 2 (some .boolean) 0 := ⟨t3_49, t1_7, t3_52, by decide +kernel⟩
theorem ck_RX9_213 : CallOK RX9 213 yX9_isLetter cX9_isLetter 1 (some .boolean) 1 := ⟨t3_64, t1_1, t2_6, by decide +kernel⟩
theorem ck_RX9_216 : CallOK RX9 216 yX6_placesWith cX6_placesWith 5 (some .int) 1 := ⟨t3_65, t1_5, t3_68, by decide +kernel⟩
theorem ck_RX9_221 : CallOK RX9 221 yX2_copyFrom cX2_copyFrom 2 none 1 := ⟨t3_75, t1_4, t3_78, by decide +kernel⟩
theorem ck_RX9_224 : CallOK RX9 224 yX9_comesTrue cX9_comesTrue 4 (some .boolean) 3 := ⟨t3_79, t1_1, t3_82, by decide +kernel⟩
theorem ck_RX9_228 : CallOK RX9 228 yX5_add cX5_add 4 (some .boolean) 3 := ⟨t3_91, t1_11, t3_94, by decide +kernel⟩
theorem ck_RX9_232 : CallOK RX9 232 yX5_size cX5_size 1 (some .int) 0 := ⟨t3_95, t1_11, t3_98, by decide +kernel⟩
theorem ck_RX9_233 : CallOK RX9 233 yX5_clear cX5_clear 1 none 0 := ⟨t3_103, t1_11, t3_106, by decide +kernel⟩
theorem ck_RX9_234 : CallOK RX9 234 yX5_fits cX5_fits 3 (some .boolean) 1 := ⟨t3_111, t1_11, t3_114, by decide +kernel⟩
theorem ck_RX9_237 : CallOK RX9 237 yX1_isSolid cX1_isSolid 3 (some .boolean) 2 := ⟨t3_120, t1_3, t2_118, by decide +kernel⟩
theorem ck_RX9_241 : CallOK RX9 241 yX9_shareOfPlace cX9_shareOfPlace 4 (some .int) 1 := ⟨t3_121, t1_1, t3_124, by decide +kernel⟩
theorem ck_RX9_244 : CallOK RX9 244 yX9_fraction cX9_fraction 4 (some .int) 3 := ⟨t3_125, t1_1, t3_127, by decide +kernel⟩
theorem ck_RX9_248 : CallOK RX9 248 yX9_weighPair cX9_weighPair 6 none 3 := ⟨t3_135, t1_1, t3_138, by decide +kernel⟩
theorem ck_RX9_252 : CallOK RX9 252 yX9_weightOf cX9_weightOf 5 (some .int) 2 := ⟨t3_143, t1_1, t3_146, by decide +kernel⟩
theorem ck_RX9_256 : CallOK RX9 256 yX6_layStaying cX6_layStaying 4 none 3 := ⟨t3_147, t1_5, t3_150, by decide +kernel⟩
theorem fk_RX9_260 : FldOK RX9 260 9 13 RX9 TX9 14 := ⟨rfl, Nat.le_of_ble_eq_true rfl, inX9, t1_183⟩
theorem ck_RX9_270 : CallOK RX9 270 yX9_passYear cX9_passYear 2 none 1 := ⟨t3_162, t1_1, t3_165, by decide +kernel⟩
theorem ck_RX9_273 : CallOK RX9 273 yX6_wide cX6_wide 2 (some .int) 0 := ⟨t3_83, t1_5, t3_86, by decide +kernel⟩
theorem ck_RX9_276 : CallOK RX9 276 yX4_store cX4_store 3 (some .boolean) 2 := ⟨t3_170, t1_10, t3_173, by decide +kernel⟩
theorem ck_RX9_280 : CallOK RX9 280 yX4_has cX4_has 2 (some .boolean) 1 := ⟨t3_183, t1_10, t3_177, by decide +kernel⟩
theorem ck_RX9_281 : CallOK RX9 281 yX4_restore cX4_restore 3 (some .boolean) 2 := ⟨t3_184, t1_10, t3_187, by decide +kernel⟩
theorem ck_RX9_284 : CallOK RX9 284 yX6_placesSeen cX6_placesSeen 4 (some .int) 0 := ⟨t3_193, t1_5, t3_196, by decide +kernel⟩
theorem ck_RX9_289 : CallOK RX9 289 yX9_tenTo cX9_tenTo 4 (some .long) 1 := ⟨t2_47, t1_1, t2_49, by decide +kernel⟩
theorem ck_RX9_297 : CallOK RX9 297 yX9_greatestShared cX9_greatestShared 6 (some .int) 2 := ⟨t3_128, t1_1, t3_130, by decide +kernel⟩
theorem nk_X9_isLetter : Cond.initialized yX9_isLetter.cls ∈ TT ∧ Cond.code yX9_isLetter cX9_isLetter 1 (some .boolean) ∈ TT ∧ (yX9_isLetter.cls ≠ "java/lang/invoke/MethodHandle" ∧ yX9_isLetter.cls ≠ "java/lang/invoke/VarHandle" ∧ (parseMethodDescriptor yX9_isLetter.desc).map (fun d => d.parameters.length) = some 1) := ⟨t1_1, t2_6, by decide +kernel⟩
theorem nk_X9_isPlace : Cond.initialized yX9_isPlace.cls ∈ TT ∧ Cond.code yX9_isPlace cX9_isPlace 1 (some .boolean) ∈ TT ∧ (yX9_isPlace.cls ≠ "java/lang/invoke/MethodHandle" ∧ yX9_isPlace.cls ≠ "java/lang/invoke/VarHandle" ∧ (parseMethodDescriptor yX9_isPlace.desc).map (fun d => d.parameters.length) = some 1) := ⟨t1_1, t2_114, by decide +kernel⟩
theorem vk_X0_size : VirtOK yX0_size := ⟨t3_1, t3_2⟩
theorem vk_X0_clear : VirtOK yX0_clear := ⟨t2_29, t2_30⟩
theorem vk_X0_remember : VirtOK yX0_remember := ⟨t2_179, t2_180⟩
theorem vk_X0_forgetFirst : VirtOK yX0_forgetFirst := ⟨t2_184, t0_3⟩
theorem vk_X0_takeBack : VirtOK yX0_takeBack := ⟨t2_233, t2_234⟩
theorem vk_X1_take : VirtOK yX1_take := ⟨t2_12, t2_13⟩
theorem vk_X1_size : VirtOK yX1_size := ⟨t2_37, t2_38⟩
theorem vk_X1_has : VirtOK yX1_has := ⟨t2_75, t2_76⟩
theorem vk_X1_hasGap : VirtOK yX1_hasGap := ⟨t2_145, t2_146⟩
theorem vk_X1_canPart : VirtOK yX1_canPart := ⟨t2_175, t2_176⟩
theorem vk_X1_kindOf : VirtOK yX1_kindOf := ⟨t2_79, t2_80⟩
theorem vk_X1_widthOf : VirtOK yX1_widthOf := ⟨t2_87, t2_88⟩
theorem vk_X1_isSolid : VirtOK yX1_isSolid := ⟨t2_116, t2_117⟩
theorem vk_X1_markOf : VirtOK yX1_markOf := ⟨t2_124, t2_125⟩
theorem vk_X1_letterOf : VirtOK yX1_letterOf := ⟨t2_162, t2_163⟩
theorem vk_X2_at : VirtOK yX2_at := ⟨t2_102, t2_103⟩
theorem vk_X2_canWiden : VirtOK yX2_canWiden := ⟨t2_171, t2_172⟩
theorem vk_X2_canNarrow : VirtOK yX2_canNarrow := ⟨t2_202, t2_203⟩
theorem vk_X2_widen : VirtOK yX2_widen := ⟨t2_193, t2_194⟩
theorem vk_X2_narrow : VirtOK yX2_narrow := ⟨t2_206, t2_207⟩
theorem vk_X2_widenAll : VirtOK yX2_widenAll := ⟨t2_215, t2_216⟩
theorem vk_X2_close : VirtOK yX2_close := ⟨t3_57, t3_58⟩
theorem vk_X2_clear : VirtOK yX2_clear := ⟨t2_24, t2_25⟩
theorem vk_X2_sum : VirtOK yX2_sum := ⟨t2_224, t2_225⟩
theorem vk_X2_sumAhead : VirtOK yX2_sumAhead := ⟨t2_83, t2_84⟩
theorem vk_X2_figures : VirtOK yX2_figures := ⟨t3_45, t3_46⟩
theorem vk_X2_stepsFrom : VirtOK yX2_stepsFrom := ⟨t3_33, t3_34⟩
theorem vk_X2_copyFrom : VirtOK yX2_copyFrom := ⟨t3_76, t3_77⟩
theorem vk_X2_copyTo : VirtOK yX2_copyTo := ⟨t2_188, t2_189⟩
theorem vk_X2_copyBack : VirtOK yX2_copyBack := ⟨t2_237, t2_238⟩
theorem vk_X3_length : VirtOK yX3_length := ⟨t1_222, t1_223⟩
theorem vk_X3_at : VirtOK yX3_at := ⟨t2_20, t2_21⟩
theorem vk_X3_append : VirtOK yX3_append := ⟨t1_218, t1_219⟩
theorem vk_X3_clear : VirtOK yX3_clear := ⟨t1_230, t1_231⟩
theorem vk_X3_firstFault : VirtOK yX3_firstFault := ⟨t1_238, t1_239⟩
theorem vk_X4_has : VirtOK yX4_has := ⟨t3_175, t3_176⟩
theorem vk_X4_clear : VirtOK yX4_clear := ⟨t2_33, t2_34⟩
theorem vk_X4_store : VirtOK yX4_store := ⟨t3_171, t3_172⟩
theorem vk_X4_restore : VirtOK yX4_restore := ⟨t3_185, t3_186⟩
theorem vk_X5_size : VirtOK yX5_size := ⟨t3_96, t3_97⟩
theorem vk_X5_clear : VirtOK yX5_clear := ⟨t3_104, t3_105⟩
theorem vk_X5_add : VirtOK yX5_add := ⟨t3_92, t3_93⟩
theorem vk_X5_fits : VirtOK yX5_fits := ⟨t3_112, t3_113⟩
theorem vk_X6_side : VirtOK yX6_side := ⟨t3_14, t3_15⟩
theorem vk_X6_layAll : VirtOK yX6_layAll := ⟨t2_92, t2_93⟩
theorem vk_X6_layStaying : VirtOK yX6_layStaying := ⟨t3_148, t3_149⟩
theorem vk_X6_layFrom : VirtOK yX6_layFrom := ⟨t2_96, t2_97⟩
theorem vk_X6_lay : VirtOK yX6_lay := ⟨t2_110, t0_0⟩
theorem vk_X6_liesUpper : VirtOK yX6_liesUpper := ⟨t2_121, t0_1⟩
theorem vk_X6_reach : VirtOK yX6_reach := ⟨t2_132, t2_133⟩
theorem vk_X6_markAt : VirtOK yX6_markAt := ⟨t2_142, t0_2⟩
theorem vk_X6_letterAt : VirtOK yX6_letterAt := ⟨t2_158, t2_159⟩
theorem vk_X6_bladeAt : VirtOK yX6_bladeAt := ⟨t2_137, t2_138⟩
theorem vk_X6_cellsSeen : VirtOK yX6_cellsSeen := ⟨t2_128, t2_129⟩
theorem vk_X6_placesSeen : VirtOK yX6_placesSeen := ⟨t3_194, t3_195⟩
theorem vk_X6_placesWith : VirtOK yX6_placesWith := ⟨t3_66, t3_67⟩
theorem vk_X6_wide : VirtOK yX6_wide := ⟨t3_84, t3_85⟩
theorem vk_X7_begin : VirtOK yX7_begin := ⟨t3_27, t3_28⟩
theorem vk_X7_step : VirtOK yX7_step := ⟨t3_50, t3_51⟩
theorem vk_X8_length : VirtOK yX8_length := ⟨t2_57, t2_58⟩
theorem vk_X8_take : VirtOK yX8_take := ⟨t2_61, t2_62⟩
theorem vk_X8_isRead : VirtOK yX8_isRead := ⟨t3_40, t3_41⟩
theorem vk_X8_firstRead : VirtOK yX8_firstRead := ⟨t3_9, t3_10⟩
theorem vk_X8_isReadAt : VirtOK yX8_isReadAt := ⟨t3_19, t0_4⟩
theorem vk_X9_write : VirtOK yX9_write := ⟨t1_214, t1_215⟩
theorem vk_X9_wipe : VirtOK yX9_wipe := ⟨t1_226, t1_227⟩
theorem vk_X9_fault : VirtOK yX9_fault := ⟨t1_234, t1_235⟩
theorem vk_X9_fan : VirtOK yX9_fan := ⟨t2_8, t2_9⟩
theorem vk_X9_word : VirtOK yX9_word := ⟨t2_41, t2_42⟩
theorem vk_X9_blade : VirtOK yX9_blade := ⟨t2_71, t2_72⟩
theorem vk_X9_look : VirtOK yX9_look := ⟨t2_150, t2_151⟩
theorem vk_X9_spread : VirtOK yX9_spread := ⟨t2_167, t2_168⟩
theorem vk_X9_fold : VirtOK yX9_fold := ⟨t2_198, t2_199⟩
theorem vk_X9_fling : VirtOK yX9_fling := ⟨t2_211, t2_212⟩
theorem vk_X9_snap : VirtOK yX9_snap := ⟨t2_220, t2_221⟩
theorem vk_X9_undo : VirtOK yX9_undo := ⟨t2_229, t2_230⟩
theorem vk_X9_reads : VirtOK yX9_reads := ⟨t3_5, t3_6⟩
theorem vk_X9_open : VirtOK yX9_open := ⟨t3_23, t3_24⟩
theorem vk_X9_most : VirtOK yX9_most := ⟨t3_61, t3_62⟩
theorem vk_X9_judge : VirtOK yX9_judge := ⟨t3_71, t3_72⟩
theorem vk_X9_spy : VirtOK yX9_spy := ⟨t3_88, t3_89⟩
theorem vk_X9_unspy : VirtOK yX9_unspy := ⟨t3_100, t3_101⟩
theorem vk_X9_gaps : VirtOK yX9_gaps := ⟨t3_108, t3_109⟩
theorem vk_X9_share : VirtOK yX9_share := ⟨t3_117, t3_118⟩
theorem vk_X9_rests : VirtOK yX9_rests := ⟨t3_132, t3_133⟩
theorem vk_X9_drops : VirtOK yX9_drops := ⟨t3_140, t3_141⟩
theorem vk_X9_seed : VirtOK yX9_seed := ⟨t3_152, t3_153⟩
theorem vk_X9_years : VirtOK yX9_years := ⟨t3_156, t3_157⟩
theorem vk_X9_keep : VirtOK yX9_keep := ⟨t3_167, t3_168⟩
theorem vk_X9_again : VirtOK yX9_again := ⟨t3_180, t3_181⟩
theorem vk_X9_count : VirtOK yX9_count := ⟨t3_190, t3_191⟩
theorem vk_X9_comesTrue : VirtOK yX9_comesTrue := ⟨t3_81, t0_5⟩
theorem vk_X9_shareOfPlace : VirtOK yX9_shareOfPlace := ⟨t3_123, t0_6⟩
theorem vk_X9_weighPair : VirtOK yX9_weighPair := ⟨t3_137, t0_7⟩
theorem vk_X9_weightOf : VirtOK yX9_weightOf := ⟨t3_145, t0_8⟩
theorem vk_X9_passYear : VirtOK yX9_passYear := ⟨t3_164, t0_9⟩
theorem vk_X10_write : VirtOK yX10_write := ⟨t4_28, t4_29⟩
theorem vk_X10_wipe : VirtOK yX10_wipe := ⟨t4_36, t4_37⟩
theorem vk_X10_readText : VirtOK yX10_readText := ⟨t4_45, t0_10⟩
theorem vk_X10_fault : VirtOK yX10_fault := ⟨t4_40, t4_41⟩
theorem vk_X10_fan : VirtOK yX10_fan := ⟨t4_52, t4_53⟩
theorem vk_X10_isBlade : VirtOK yX10_isBlade := ⟨t4_71, t0_11⟩
theorem vk_X10_gapMany : VirtOK yX10_gapMany := ⟨t4_102, t0_18⟩
theorem vk_X10_isGap : VirtOK yX10_isGap := ⟨t4_98, t0_17⟩
theorem vk_X10_isFree : VirtOK yX10_isFree := ⟨t4_123, t0_21⟩
theorem vk_X10_word : VirtOK yX10_word := ⟨t4_56, t4_57⟩
theorem vk_X10_beginOf : VirtOK yX10_beginOf := ⟨t4_75, t0_12⟩
theorem vk_X10_wideOf : VirtOK yX10_wideOf := ⟨t4_79, t0_13⟩
theorem vk_X10_cellAt : VirtOK yX10_cellAt := ⟨t4_94, t0_16⟩
theorem vk_X10_bladeAt : VirtOK yX10_bladeAt := ⟨t4_87, t0_15⟩
theorem vk_X10_letterAt : VirtOK yX10_letterAt := ⟨t4_111, t0_19⟩
theorem vk_X10_cellsSeen : VirtOK yX10_cellsSeen := ⟨t4_83, t0_14⟩
theorem vk_X10_wide : VirtOK yX10_wide := ⟨t4_220, t0_36⟩
theorem vk_X10_placesSeen : VirtOK yX10_placesSeen := ⟨t5_10, t0_38⟩
theorem vk_X10_isReadAt : VirtOK yX10_isReadAt := ⟨t4_171, t0_28⟩
theorem vk_X10_readsOn : VirtOK yX10_readsOn := ⟨t4_167, t0_27⟩
theorem vk_X10_blade : VirtOK yX10_blade := ⟨t4_66, t4_67⟩
theorem vk_X10_look : VirtOK yX10_look := ⟨t4_105, t4_106⟩
theorem vk_X10_keepAct : VirtOK yX10_keepAct := ⟨t4_127, t0_22⟩
theorem vk_X10_canSpread : VirtOK yX10_canSpread := ⟨t4_119, t0_20⟩
theorem vk_X10_canFold : VirtOK yX10_canFold := ⟨t4_135, t0_23⟩
theorem vk_X10_spread : VirtOK yX10_spread := ⟨t4_114, t4_115⟩
theorem vk_X10_fold : VirtOK yX10_fold := ⟨t4_130, t4_131⟩
theorem vk_X10_flingOn : VirtOK yX10_flingOn := ⟨t4_143, t0_24⟩
theorem vk_X10_gapsOf : VirtOK yX10_gapsOf := ⟨t4_151, t0_25⟩
theorem vk_X10_snapOn : VirtOK yX10_snapOn := ⟨t4_155, t0_26⟩
theorem vk_X10_fling : VirtOK yX10_fling := ⟨t4_138, t4_139⟩
theorem vk_X10_snap : VirtOK yX10_snap := ⟨t4_146, t4_147⟩
theorem vk_X10_undo : VirtOK yX10_undo := ⟨t4_158, t4_159⟩
theorem vk_X10_layTrial : VirtOK yX10_layTrial := ⟨t4_212, t0_34⟩
theorem vk_X10_reads : VirtOK yX10_reads := ⟨t4_162, t4_163⟩
theorem vk_X10_waysMany : VirtOK yX10_waysMany := ⟨t4_179, t0_29⟩
theorem vk_X10_layWay : VirtOK yX10_layWay := ⟨t4_183, t0_30⟩
theorem vk_X10_figuresOf : VirtOK yX10_figuresOf := ⟨t4_191, t0_32⟩
theorem vk_X10_farOf : VirtOK yX10_farOf := ⟨t4_187, t0_31⟩
theorem vk_X10_open : VirtOK yX10_open := ⟨t4_174, t4_175⟩
theorem vk_X10_timesSeen : VirtOK yX10_timesSeen := ⟨t4_199, t0_33⟩
theorem vk_X10_most : VirtOK yX10_most := ⟨t4_194, t4_195⟩
theorem vk_X10_tryThing : VirtOK yX10_tryThing := ⟨t4_216, t0_35⟩
theorem vk_X10_judge : VirtOK yX10_judge := ⟨t4_202, t4_203⟩
theorem vk_X10_spy : VirtOK yX10_spy := ⟨t4_223, t4_224⟩
theorem vk_X10_unspy : VirtOK yX10_unspy := ⟨t4_227, t4_228⟩
theorem vk_X10_mayBe : VirtOK yX10_mayBe := ⟨t4_236, t0_37⟩
theorem vk_X10_gaps : VirtOK yX10_gaps := ⟨t4_231, t4_232⟩
theorem vk_X10_share : VirtOK yX10_share := ⟨t4_239, t5_0⟩
theorem vk_X10_gain : VirtOK yX10_gain := ⟨t5_25, t0_40⟩
theorem vk_X10_isRest : VirtOK yX10_isRest := ⟨t5_21, t0_39⟩
theorem vk_X10_rests : VirtOK yX10_rests := ⟨t5_16, t5_17⟩
theorem vk_X10_drops : VirtOK yX10_drops := ⟨t5_28, t5_29⟩
theorem vk_X10_seed : VirtOK yX10_seed := ⟨t5_33, t5_34⟩
theorem vk_X10_years : VirtOK yX10_years := ⟨t5_37, t5_38⟩
theorem vk_X10_keep : VirtOK yX10_keep := ⟨t5_45, t5_46⟩
theorem vk_X10_again : VirtOK yX10_again := ⟨t5_49, t5_50⟩
theorem vk_X10_count : VirtOK yX10_count := ⟨t5_53, t5_54⟩
