section XR
variable {p : Program} {l : Launch} {e : Env} {R : Room} {s : State} {m : MethodId} {args : Array Value} {below : List Frame} {meth : Method} {c : Code} {ad : Nat → Nat} {D : va_G} {cI cZ cG : ClassId} {A : Nat → Prop} {cc : ByteArray} {nL kc ks : Nat} {own : String} {ret : Option FieldType} {Q : State → Prop} {σ : GS} {pc q : Nat} {lv lv' : List (Nat × Value)} {st : List Value}
theorem x_iconst {n z : Int} (C : Cx p s m args meth c ad D cI cZ cG A cc nL own ret) (hd : decode cc pc = .ok (.iconst n, 1)) (hz : n = z) (hq : pc + 1 = q)
    (kk : V p l e R s m args below meth c ad D cI cZ cG A nL kc ks Q σ q lv (.int (iI z) :: st)) : V p l e R s m args below meth c ad D cI cZ cG A nL kc ks Q σ pc lv st := by
  subst hq
  intro H locs ls hP hS hl
  refine lv_iconst C.1 C.2.1 hd (congrArg Int32.ofInt hz) ?_
  exact kk H locs ls hP hS hl
theorem x_bipush {n z : Int} (C : Cx p s m args meth c ad D cI cZ cG A cc nL own ret) (hd : decode cc pc = .ok (.bipush n, 2)) (hz : (Int8.ofInt n).toInt32 = iI z) (hq : pc + 2 = q)
    (kk : V p l e R s m args below meth c ad D cI cZ cG A nL kc ks Q σ q lv (.int (iI z) :: st)) : V p l e R s m args below meth c ad D cI cZ cG A nL kc ks Q σ pc lv st := by
  subst hq
  intro H locs ls hP hS hl
  refine lv_bipush C.1 C.2.1 hd hz ?_
  exact kk H locs ls hP hS hl
theorem x_sipush {n z : Int} (C : Cx p s m args meth c ad D cI cZ cG A cc nL own ret) (hd : decode cc pc = .ok (.sipush n, 3)) (hz : (Int16.ofInt n).toInt32 = iI z) (hq : pc + 3 = q)
    (kk : V p l e R s m args below meth c ad D cI cZ cG A nL kc ks Q σ q lv (.int (iI z) :: st)) : V p l e R s m args below meth c ad D cI cZ cG A nL kc ks Q σ pc lv st := by
  subst hq
  intro H locs ls hP hS hl
  refine lv_sipush C.1 C.2.1 hd hz ?_
  exact kk H locs ls hP hS hl
theorem x_lconst {n : Fin 2} {z : Int} (C : Cx p s m args meth c ad D cI cZ cG A cc nL own ret) (hd : decode cc pc = .ok (.lconst n, 1)) (hz : Int64.ofNat n = lI z) (hq : pc + 1 = q)
    (kk : V p l e R s m args below meth c ad D cI cZ cG A nL kc ks Q σ q lv (.long (lI z) :: st)) : V p l e R s m args below meth c ad D cI cZ cG A nL kc ks Q σ pc lv st := by
  subst hq
  intro H locs ls hP hS hl
  refine lv_lconst C.1 C.2.1 hd hz ?_
  exact kk H locs ls hP hS hl
theorem x_ldc2 {idx : Nat} {v : Int64} {z : Int} (C : Cx p s m args meth c ad D cI cZ cG A cc nL own ret) (hd : decode cc pc = .ok (.ldc2_w idx, 3)) (hw : Cond.constantLong own idx v ∈ TT) (hz : v = lI z) (hq : pc + 3 = q)
    (kk : V p l e R s m args below meth c ad D cI cZ cG A nL kc ks Q σ q lv (.long (lI z) :: st)) : V p l e R s m args below meth c ad D cI cZ cG A nL kc ks Q σ pc lv st := by
  subst hq
  intro H locs ls hP hS hl
  refine lv_ldc2 C.1 C.2.1 C.2.2.2.1 (C.2.2.2.2.1 _ hw) hd  ?_
  rw [hz]
  exact kk H locs ls hP hS hl
theorem x_iload_n {k : Fin 4} {i : Nat} {z : Int} (C : Cx p s m args meth c ad D cI cZ cG A cc nL own ret) (hd : decode cc pc = .ok (.iload_n k, 1)) (hi : (k : Nat) = i) (j : Nat) (hj : lv[j]? = some (i, .int (iI z))) (hq : pc + 1 = q)
    (kk : V p l e R s m args below meth c ad D cI cZ cG A nL kc ks Q σ q lv (.int (iI z) :: st)) : V p l e R s m args below meth c ad D cI cZ cG A nL kc ks Q σ pc lv st := by
  subst hq
  intro H locs ls hP hS hl
  refine lv_iload_n C.1 C.2.1 hd hi (lv_at hl j hj) ?_
  exact kk H locs ls hP hS hl
theorem x_iload {i : Nat} {z : Int} (C : Cx p s m args meth c ad D cI cZ cG A cc nL own ret) (hd : decode cc pc = .ok (.iload i, 2)) (j : Nat) (hj : lv[j]? = some (i, .int (iI z))) (hq : pc + 2 = q)
    (kk : V p l e R s m args below meth c ad D cI cZ cG A nL kc ks Q σ q lv (.int (iI z) :: st)) : V p l e R s m args below meth c ad D cI cZ cG A nL kc ks Q σ pc lv st := by
  subst hq
  intro H locs ls hP hS hl
  refine lv_iload C.1 C.2.1 hd (lv_at hl j hj) ?_
  exact kk H locs ls hP hS hl
theorem x_lload_n {k : Fin 4} {i : Nat} {z : Int} (C : Cx p s m args meth c ad D cI cZ cG A cc nL own ret) (hd : decode cc pc = .ok (.lload_n k, 1)) (hi : (k : Nat) = i) (j : Nat) (hj : lv[j]? = some (i, .long (lI z))) (hq : pc + 1 = q)
    (kk : V p l e R s m args below meth c ad D cI cZ cG A nL kc ks Q σ q lv (.long (lI z) :: st)) : V p l e R s m args below meth c ad D cI cZ cG A nL kc ks Q σ pc lv st := by
  subst hq
  intro H locs ls hP hS hl
  refine lv_lload_n C.1 C.2.1 hd hi (lv_at hl j hj) ?_
  exact kk H locs ls hP hS hl
theorem x_lload {i : Nat} {z : Int} (C : Cx p s m args meth c ad D cI cZ cG A cc nL own ret) (hd : decode cc pc = .ok (.lload i, 2)) (j : Nat) (hj : lv[j]? = some (i, .long (lI z))) (hq : pc + 2 = q)
    (kk : V p l e R s m args below meth c ad D cI cZ cG A nL kc ks Q σ q lv (.long (lI z) :: st)) : V p l e R s m args below meth c ad D cI cZ cG A nL kc ks Q σ pc lv st := by
  subst hq
  intro H locs ls hP hS hl
  refine lv_lload C.1 C.2.1 hd (lv_at hl j hj) ?_
  exact kk H locs ls hP hS hl
theorem x_aload_n {k : Fin 4} {i : Nat} {x : Nat} (C : Cx p s m args meth c ad D cI cZ cG A cc nL own ret) (hd : decode cc pc = .ok (.aload_n k, 1)) (hi : (k : Nat) = i) (j : Nat) (hj : lv[j]? = some (i, .ref x)) (hq : pc + 1 = q)
    (kk : V p l e R s m args below meth c ad D cI cZ cG A nL kc ks Q σ q lv (.ref x :: st)) : V p l e R s m args below meth c ad D cI cZ cG A nL kc ks Q σ pc lv st := by
  subst hq
  intro H locs ls hP hS hl
  refine lv_aload_n C.1 C.2.1 hd hi (lv_at hl j hj) ?_
  exact kk H locs ls hP hS hl
theorem x_aload {i : Nat} {x : Nat} (C : Cx p s m args meth c ad D cI cZ cG A cc nL own ret) (hd : decode cc pc = .ok (.aload i, 2)) (j : Nat) (hj : lv[j]? = some (i, .ref x)) (hq : pc + 2 = q)
    (kk : V p l e R s m args below meth c ad D cI cZ cG A nL kc ks Q σ q lv (.ref x :: st)) : V p l e R s m args below meth c ad D cI cZ cG A nL kc ks Q σ pc lv st := by
  subst hq
  intro H locs ls hP hS hl
  refine lv_aload C.1 C.2.1 hd (lv_at hl j hj) ?_
  exact kk H locs ls hP hS hl
theorem x_istore_n {k : Fin 4} {z : Int} {i : Nat} (C : Cx p s m args meth c ad D cI cZ cG A cc nL own ret) (hd : decode cc pc = .ok (.istore_n k, 1)) (hi : (k : Nat) = i) (hn : i < nL) (js : List Nat) (hj : lv_pick ((i, Value.int (iI z)) :: lv.filter (fun q => !(q.1 == i) && !(q.1 + 1 == i && q.2.category == 2))) js = lv') (hq : pc + 1 = q)
    (kk : V p l e R s m args below meth c ad D cI cZ cG A nL kc ks Q σ q lv' st) : V p l e R s m args below meth c ad D cI cZ cG A nL kc ks Q σ pc lv (Value.int (iI z) :: st) := by
  subst hq
  intro H locs ls hP hS hl
  exact lv_istore_n C.1 C.2.1 hd hi hl hn rfl (fun ls' hl' => kk H locs ls' hP hS (lv_sub hl' js hj))
theorem x_istore {z : Int} {i : Nat} (C : Cx p s m args meth c ad D cI cZ cG A cc nL own ret) (hd : decode cc pc = .ok (.istore i, 2))  (hn : i < nL) (js : List Nat) (hj : lv_pick ((i, Value.int (iI z)) :: lv.filter (fun q => !(q.1 == i) && !(q.1 + 1 == i && q.2.category == 2))) js = lv') (hq : pc + 2 = q)
    (kk : V p l e R s m args below meth c ad D cI cZ cG A nL kc ks Q σ q lv' st) : V p l e R s m args below meth c ad D cI cZ cG A nL kc ks Q σ pc lv (Value.int (iI z) :: st) := by
  subst hq
  intro H locs ls hP hS hl
  exact lv_istore C.1 C.2.1 hd hl hn rfl (fun ls' hl' => kk H locs ls' hP hS (lv_sub hl' js hj))
theorem x_lstore_n {k : Fin 4} {z : Int} {i : Nat} (C : Cx p s m args meth c ad D cI cZ cG A cc nL own ret) (hd : decode cc pc = .ok (.lstore_n k, 1)) (hi : (k : Nat) = i) (hn : i + 1 < nL) (js : List Nat) (hj : lv_pick ((i, Value.long (lI z)) :: lv.filter (fun q => !(q.1 == i) && (!(q.1 == i + 1) && !(q.1 + 1 == i && q.2.category == 2)))) js = lv') (hq : pc + 1 = q)
    (kk : V p l e R s m args below meth c ad D cI cZ cG A nL kc ks Q σ q lv' st) : V p l e R s m args below meth c ad D cI cZ cG A nL kc ks Q σ pc lv (Value.long (lI z) :: st) := by
  subst hq
  intro H locs ls hP hS hl
  exact lv_lstore_n C.1 C.2.1 hd hi hl hn rfl (fun ls' hl' => kk H locs ls' hP hS (lv_sub hl' js hj))
theorem x_lstore {z : Int} {i : Nat} (C : Cx p s m args meth c ad D cI cZ cG A cc nL own ret) (hd : decode cc pc = .ok (.lstore i, 2))  (hn : i + 1 < nL) (js : List Nat) (hj : lv_pick ((i, Value.long (lI z)) :: lv.filter (fun q => !(q.1 == i) && (!(q.1 == i + 1) && !(q.1 + 1 == i && q.2.category == 2)))) js = lv') (hq : pc + 2 = q)
    (kk : V p l e R s m args below meth c ad D cI cZ cG A nL kc ks Q σ q lv' st) : V p l e R s m args below meth c ad D cI cZ cG A nL kc ks Q σ pc lv (Value.long (lI z) :: st) := by
  subst hq
  intro H locs ls hP hS hl
  exact lv_lstore C.1 C.2.1 hd hl hn rfl (fun ls' hl' => kk H locs ls' hP hS (lv_sub hl' js hj))
theorem x_astore_n {k : Fin 4} {x : Nat} {i : Nat} (C : Cx p s m args meth c ad D cI cZ cG A cc nL own ret) (hd : decode cc pc = .ok (.astore_n k, 1)) (hi : (k : Nat) = i) (hn : i < nL) (js : List Nat) (hj : lv_pick ((i, Value.ref x) :: lv.filter (fun q => !(q.1 == i) && !(q.1 + 1 == i && q.2.category == 2))) js = lv') (hq : pc + 1 = q)
    (kk : V p l e R s m args below meth c ad D cI cZ cG A nL kc ks Q σ q lv' st) : V p l e R s m args below meth c ad D cI cZ cG A nL kc ks Q σ pc lv (Value.ref x :: st) := by
  subst hq
  intro H locs ls hP hS hl
  exact lv_astore_n C.1 C.2.1 hd hi hl hn rfl (fun ls' hl' => kk H locs ls' hP hS (lv_sub hl' js hj))
theorem x_astore {x : Nat} {i : Nat} (C : Cx p s m args meth c ad D cI cZ cG A cc nL own ret) (hd : decode cc pc = .ok (.astore i, 2))  (hn : i < nL) (js : List Nat) (hj : lv_pick ((i, Value.ref x) :: lv.filter (fun q => !(q.1 == i) && !(q.1 + 1 == i && q.2.category == 2))) js = lv') (hq : pc + 2 = q)
    (kk : V p l e R s m args below meth c ad D cI cZ cG A nL kc ks Q σ q lv' st) : V p l e R s m args below meth c ad D cI cZ cG A nL kc ks Q σ pc lv (Value.ref x :: st) := by
  subst hq
  intro H locs ls hP hS hl
  exact lv_astore C.1 C.2.1 hd hl hn rfl (fun ls' hl' => kk H locs ls' hP hS (lv_sub hl' js hj))
theorem x_iinc {i : Nat} {n z z' : Int} (C : Cx p s m args meth c ad D cI cZ cG A cc nL own ret) (hd : decode cc pc = .ok (.iinc i n, 3)) (j : Nat) (hj0 : lv[j]? = some (i, .int (iI z))) (hz : z + n = z') (hn : i < nL) (js : List Nat) (hj : lv_pick ((i, Value.int (iI z')) :: lv.filter (fun q => !(q.1 == i) && !(q.1 + 1 == i && q.2.category == 2))) js = lv') (hq : pc + 3 = q)
    (kk : V p l e R s m args below meth c ad D cI cZ cG A nL kc ks Q σ q lv' st) : V p l e R s m args below meth c ad D cI cZ cG A nL kc ks Q σ pc lv st := by
  subst hq
  intro H locs ls hP hS hl
  exact lv_iinc (v := iI z') C.1 C.2.1 hd hl hj0 (by rw [← hz]; exact iI_add z n) hn rfl (fun ls' hl' => kk H locs ls' hP hS (lv_sub hl' js hj))
theorem x_iadd {a b : Int} (C : Cx p s m args meth c ad D cI cZ cG A cc nL own ret) (hd : decode cc pc = .ok (.iadd, 1))  (hq : pc + 1 = q)
    (kk : V p l e R s m args below meth c ad D cI cZ cG A nL kc ks Q σ q lv (.int (iI (a + b)) :: st)) : V p l e R s m args below meth c ad D cI cZ cG A nL kc ks Q σ pc lv (.int (iI b) :: .int (iI a) :: st) := by
  subst hq
  intro H locs ls hP hS hl
  refine lv_iadd C.1 C.2.1 hd  ?_
  rw [iI_add]
  exact kk H locs ls hP hS hl
theorem x_isub {a b : Int} (C : Cx p s m args meth c ad D cI cZ cG A cc nL own ret) (hd : decode cc pc = .ok (.isub, 1))  (hq : pc + 1 = q)
    (kk : V p l e R s m args below meth c ad D cI cZ cG A nL kc ks Q σ q lv (.int (iI (a - b)) :: st)) : V p l e R s m args below meth c ad D cI cZ cG A nL kc ks Q σ pc lv (.int (iI b) :: .int (iI a) :: st) := by
  subst hq
  intro H locs ls hP hS hl
  refine lv_isub C.1 C.2.1 hd  ?_
  rw [iI_sub]
  exact kk H locs ls hP hS hl
theorem x_imul {a b : Int} (C : Cx p s m args meth c ad D cI cZ cG A cc nL own ret) (hd : decode cc pc = .ok (.imul, 1))  (hq : pc + 1 = q)
    (kk : V p l e R s m args below meth c ad D cI cZ cG A nL kc ks Q σ q lv (.int (iI (a * b)) :: st)) : V p l e R s m args below meth c ad D cI cZ cG A nL kc ks Q σ pc lv (.int (iI b) :: .int (iI a) :: st) := by
  subst hq
  intro H locs ls hP hS hl
  refine lv_imul C.1 C.2.1 hd  ?_
  rw [iI_mul]
  exact kk H locs ls hP hS hl
theorem x_ladd {a b : Int} (C : Cx p s m args meth c ad D cI cZ cG A cc nL own ret) (hd : decode cc pc = .ok (.ladd, 1))  (hq : pc + 1 = q)
    (kk : V p l e R s m args below meth c ad D cI cZ cG A nL kc ks Q σ q lv (.long (lI (a + b)) :: st)) : V p l e R s m args below meth c ad D cI cZ cG A nL kc ks Q σ pc lv (.long (lI b) :: .long (lI a) :: st) := by
  subst hq
  intro H locs ls hP hS hl
  refine lv_ladd C.1 C.2.1 hd  ?_
  rw [lI_add]
  exact kk H locs ls hP hS hl
theorem x_lsub {a b : Int} (C : Cx p s m args meth c ad D cI cZ cG A cc nL own ret) (hd : decode cc pc = .ok (.lsub, 1))  (hq : pc + 1 = q)
    (kk : V p l e R s m args below meth c ad D cI cZ cG A nL kc ks Q σ q lv (.long (lI (a - b)) :: st)) : V p l e R s m args below meth c ad D cI cZ cG A nL kc ks Q σ pc lv (.long (lI b) :: .long (lI a) :: st) := by
  subst hq
  intro H locs ls hP hS hl
  refine lv_lsub C.1 C.2.1 hd  ?_
  rw [lI_sub]
  exact kk H locs ls hP hS hl
theorem x_lmul {a b : Int} (C : Cx p s m args meth c ad D cI cZ cG A cc nL own ret) (hd : decode cc pc = .ok (.lmul, 1))  (hq : pc + 1 = q)
    (kk : V p l e R s m args below meth c ad D cI cZ cG A nL kc ks Q σ q lv (.long (lI (a * b)) :: st)) : V p l e R s m args below meth c ad D cI cZ cG A nL kc ks Q σ pc lv (.long (lI b) :: .long (lI a) :: st) := by
  subst hq
  intro H locs ls hP hS hl
  refine lv_lmul C.1 C.2.1 hd  ?_
  rw [lI_mul]
  exact kk H locs ls hP hS hl
theorem x_ineg {a : Int} (C : Cx p s m args meth c ad D cI cZ cG A cc nL own ret) (hd : decode cc pc = .ok (.ineg, 1))  (hq : pc + 1 = q)
    (kk : V p l e R s m args below meth c ad D cI cZ cG A nL kc ks Q σ q lv (.int (iI (-a)) :: st)) : V p l e R s m args below meth c ad D cI cZ cG A nL kc ks Q σ pc lv (.int (iI a) :: st) := by
  subst hq
  intro H locs ls hP hS hl
  refine lv_ineg C.1 C.2.1 hd  ?_
  rw [iI_neg]
  exact kk H locs ls hP hS hl
theorem x_idiv {a b : Int} (C : Cx p s m args meth c ad D cI cZ cG A cc nL own ret) (hd : decode cc pc = .ok (.idiv, 1)) (h : (0 ≤ a ∧ a ≤ 2147483647) ∧ (0 < b ∧ b ≤ 2147483647)) (hq : pc + 1 = q)
    (kk : V p l e R s m args below meth c ad D cI cZ cG A nL kc ks Q σ q lv (.int (iI (a / b)) :: st)) : V p l e R s m args below meth c ad D cI cZ cG A nL kc ks Q σ pc lv (.int (iI b) :: .int (iI a) :: st) := by
  subst hq
  intro H locs ls hP hS hl
  refine lv_idiv C.1 C.2.1 hd (fun h0 => by rw [iI_0, iI_eq ⟨by omega, by omega⟩] at h0; omega) ?_
  rw [iI_div h]
  exact kk H locs ls hP hS hl
theorem x_irem {a b : Int} (C : Cx p s m args meth c ad D cI cZ cG A cc nL own ret) (hd : decode cc pc = .ok (.irem, 1)) (h : (0 ≤ a ∧ a ≤ 2147483647) ∧ (0 < b ∧ b ≤ 2147483647)) (hq : pc + 1 = q)
    (kk : V p l e R s m args below meth c ad D cI cZ cG A nL kc ks Q σ q lv (.int (iI (a % b)) :: st)) : V p l e R s m args below meth c ad D cI cZ cG A nL kc ks Q σ pc lv (.int (iI b) :: .int (iI a) :: st) := by
  subst hq
  intro H locs ls hP hS hl
  refine lv_irem C.1 C.2.1 hd (fun h0 => by rw [iI_0, iI_eq ⟨by omega, by omega⟩] at h0; omega) ?_
  rw [iI_rem h]
  exact kk H locs ls hP hS hl
theorem x_ldiv {a b : Int} (C : Cx p s m args meth c ad D cI cZ cG A cc nL own ret) (hd : decode cc pc = .ok (.ldiv, 1)) (h : (0 ≤ a ∧ a ≤ 9223372036854775807) ∧ (0 < b ∧ b ≤ 9223372036854775807)) (hq : pc + 1 = q)
    (kk : V p l e R s m args below meth c ad D cI cZ cG A nL kc ks Q σ q lv (.long (lI (a / b)) :: st)) : V p l e R s m args below meth c ad D cI cZ cG A nL kc ks Q σ pc lv (.long (lI b) :: .long (lI a) :: st) := by
  subst hq
  intro H locs ls hP hS hl
  refine lv_ldiv C.1 C.2.1 hd (fun h0 => by rw [show (0 : Int64) = lI 0 from rfl, lI_eq ⟨by omega, by omega⟩] at h0; omega) ?_
  rw [lI_div h]
  exact kk H locs ls hP hS hl
theorem x_lrem {a b : Int} (C : Cx p s m args meth c ad D cI cZ cG A cc nL own ret) (hd : decode cc pc = .ok (.lrem, 1)) (h : (0 ≤ a ∧ a ≤ 9223372036854775807) ∧ (0 < b ∧ b ≤ 9223372036854775807)) (hq : pc + 1 = q)
    (kk : V p l e R s m args below meth c ad D cI cZ cG A nL kc ks Q σ q lv (.long (lI (a % b)) :: st)) : V p l e R s m args below meth c ad D cI cZ cG A nL kc ks Q σ pc lv (.long (lI b) :: .long (lI a) :: st) := by
  subst hq
  intro H locs ls hP hS hl
  refine lv_lrem C.1 C.2.1 hd (fun h0 => by rw [show (0 : Int64) = lI 0 from rfl, lI_eq ⟨by omega, by omega⟩] at h0; omega) ?_
  rw [lI_rem h]
  exact kk H locs ls hP hS hl
theorem x_ishr {a b : Int} (C : Cx p s m args meth c ad D cI cZ cG A cc nL own ret) (hd : decode cc pc = .ok (.ishr, 1)) (h : (0 ≤ a ∧ a ≤ 2147483647) ∧ (0 ≤ b ∧ b < 32)) (hq : pc + 1 = q)
    (kk : V p l e R s m args below meth c ad D cI cZ cG A nL kc ks Q σ q lv (.int (iI (a / 2 ^ b.toNat)) :: st)) : V p l e R s m args below meth c ad D cI cZ cG A nL kc ks Q σ pc lv (.int (iI b) :: .int (iI a) :: st) := by
  subst hq
  intro H locs ls hP hS hl
  refine lv_ishr C.1 C.2.1 hd  ?_
  rw [iI_shr h]
  exact kk H locs ls hP hS hl
theorem x_ishl {a b : Int} (C : Cx p s m args meth c ad D cI cZ cG A cc nL own ret) (hd : decode cc pc = .ok (.ishl, 1)) (h : (0 ≤ a ∧ a * 2 ^ b.toNat ≤ 2147483647) ∧ (0 ≤ b ∧ b < 32)) (hq : pc + 1 = q)
    (kk : V p l e R s m args below meth c ad D cI cZ cG A nL kc ks Q σ q lv (.int (iI (a * 2 ^ b.toNat)) :: st)) : V p l e R s m args below meth c ad D cI cZ cG A nL kc ks Q σ pc lv (.int (iI b) :: .int (iI a) :: st) := by
  subst hq
  intro H locs ls hP hS hl
  refine lv_ishl C.1 C.2.1 hd  ?_
  rw [iI_shl h]
  exact kk H locs ls hP hS hl
theorem x_ixor {a b : Int} (C : Cx p s m args meth c ad D cI cZ cG A cc nL own ret) (hd : decode cc pc = .ok (.ixor, 1)) (h : 0 ≤ a ∧ 0 ≤ b) (hq : pc + 1 = q)
    (kk : V p l e R s m args below meth c ad D cI cZ cG A nL kc ks Q σ q lv (.int (iI (bxor a b)) :: st)) : V p l e R s m args below meth c ad D cI cZ cG A nL kc ks Q σ pc lv (.int (iI b) :: .int (iI a) :: st) := by
  subst hq
  intro H locs ls hP hS hl
  refine lv_ixor C.1 C.2.1 hd  ?_
  rw [iI_xor h]
  exact kk H locs ls hP hS hl
theorem x_ior {a b : Int} (C : Cx p s m args meth c ad D cI cZ cG A cc nL own ret) (hd : decode cc pc = .ok (.ior, 1)) (h : 0 ≤ a ∧ 0 ≤ b) (hq : pc + 1 = q)
    (kk : V p l e R s m args below meth c ad D cI cZ cG A nL kc ks Q σ q lv (.int (iI (bor a b)) :: st)) : V p l e R s m args below meth c ad D cI cZ cG A nL kc ks Q σ pc lv (.int (iI b) :: .int (iI a) :: st) := by
  subst hq
  intro H locs ls hP hS hl
  refine lv_ior C.1 C.2.1 hd  ?_
  rw [iI_or h]
  exact kk H locs ls hP hS hl
theorem x_iand1 {a : Int} (C : Cx p s m args meth c ad D cI cZ cG A cc nL own ret) (hd : decode cc pc = .ok (.iand, 1))  (hq : pc + 1 = q)
    (kk : V p l e R s m args below meth c ad D cI cZ cG A nL kc ks Q σ q lv (.int (iI (a % 2)) :: st)) : V p l e R s m args below meth c ad D cI cZ cG A nL kc ks Q σ pc lv (.int (iI 1) :: .int (iI a) :: st) := by
  subst hq
  intro H locs ls hP hS hl
  refine lv_iand C.1 C.2.1 hd  ?_
  rw [iI_and1]
  exact kk H locs ls hP hS hl
theorem x_iand31 {a : Int} (C : Cx p s m args meth c ad D cI cZ cG A cc nL own ret) (hd : decode cc pc = .ok (.iand, 1))  (hq : pc + 1 = q)
    (kk : V p l e R s m args below meth c ad D cI cZ cG A nL kc ks Q σ q lv (.int (iI (a % 32)) :: st)) : V p l e R s m args below meth c ad D cI cZ cG A nL kc ks Q σ pc lv (.int (iI 31) :: .int (iI a) :: st) := by
  subst hq
  intro H locs ls hP hS hl
  refine lv_iand C.1 C.2.1 hd  ?_
  rw [iI_and31]
  exact kk H locs ls hP hS hl
theorem x_i2l {a : Int} (C : Cx p s m args meth c ad D cI cZ cG A cc nL own ret) (hd : decode cc pc = .ok (.i2l, 1)) (h : rg a) (hq : pc + 1 = q)
    (kk : V p l e R s m args below meth c ad D cI cZ cG A nL kc ks Q σ q lv (.long (lI a) :: st)) : V p l e R s m args below meth c ad D cI cZ cG A nL kc ks Q σ pc lv (.int (iI a) :: st) := by
  subst hq
  intro H locs ls hP hS hl
  refine lv_i2l C.1 C.2.1 hd (iI_l h) ?_
  exact kk H locs ls hP hS hl
theorem x_l2i {a : Int} (C : Cx p s m args meth c ad D cI cZ cG A cc nL own ret) (hd : decode cc pc = .ok (.l2i, 1))  (hq : pc + 1 = q)
    (kk : V p l e R s m args below meth c ad D cI cZ cG A nL kc ks Q σ q lv (.int (iI a) :: st)) : V p l e R s m args below meth c ad D cI cZ cG A nL kc ks Q σ pc lv (.long (lI a) :: st) := by
  subst hq
  intro H locs ls hP hS hl
  refine lv_l2i C.1 C.2.1 hd (lI_i a) ?_
  exact kk H locs ls hP hS hl
theorem x_lushr33 {a : Int} (C : Cx p s m args meth c ad D cI cZ cG A cc nL own ret) (hd : decode cc pc = .ok (.lushr, 1))  (hq : pc + 1 = q)
    (kk : V p l e R s m args below meth c ad D cI cZ cG A nL kc ks Q σ q lv (.long (lI (a % 18446744073709551616 / 8589934592)) :: st)) : V p l e R s m args below meth c ad D cI cZ cG A nL kc ks Q σ pc lv (.int (iI 33) :: .long (lI a) :: st) := by
  subst hq
  intro H locs ls hP hS hl
  refine lv_lushr C.1 C.2.1 hd (lI_ushr33 a) ?_
  exact kk H locs ls hP hS hl
theorem x_lcmp {a b : Int} (C : Cx p s m args meth c ad D cI cZ cG A cc nL own ret) (hd : decode cc pc = .ok (.lcmp, 1))  (hq : pc + 1 = q)
    (kk : V p l e R s m args below meth c ad D cI cZ cG A nL kc ks Q σ q lv (.int (iI (lc a b)) :: st)) : V p l e R s m args below meth c ad D cI cZ cG A nL kc ks Q σ pc lv (.long (lI b) :: .long (lI a) :: st) := by
  subst hq
  intro H locs ls hP hS hl
  refine W.lcmp C.1 C.2.1 hd  ?_
  rw [lc_cmp]
  exact kk H locs ls hP hS hl
theorem x_lshl {x : Int64} {y : Int32} (C : Cx p s m args meth c ad D cI cZ cG A cc nL own ret) (hd : decode cc pc = .ok (.lshl, 1))  (hq : pc + 1 = q)
    (kk : V p l e R s m args below meth c ad D cI cZ cG A nL kc ks Q σ q lv (.long (x <<< (y.toInt64 &&& 63)) :: st)) : V p l e R s m args below meth c ad D cI cZ cG A nL kc ks Q σ pc lv (.int y :: .long x :: st) := by
  subst hq
  intro H locs ls hP hS hl
  refine lv_lshl C.1 C.2.1 hd rfl ?_
  exact kk H locs ls hP hS hl
theorem x_land {x y : Int64} (C : Cx p s m args meth c ad D cI cZ cG A cc nL own ret) (hd : decode cc pc = .ok (.land, 1))  (hq : pc + 1 = q)
    (kk : V p l e R s m args below meth c ad D cI cZ cG A nL kc ks Q σ q lv (.long (x &&& y) :: st)) : V p l e R s m args below meth c ad D cI cZ cG A nL kc ks Q σ pc lv (.long y :: .long x :: st) := by
  subst hq
  intro H locs ls hP hS hl
  refine lv_land C.1 C.2.1 hd  ?_
  exact kk H locs ls hP hS hl
theorem x_lor {x y : Int64} (C : Cx p s m args meth c ad D cI cZ cG A cc nL own ret) (hd : decode cc pc = .ok (.lor, 1))  (hq : pc + 1 = q)
    (kk : V p l e R s m args below meth c ad D cI cZ cG A nL kc ks Q σ q lv (.long (x ||| y) :: st)) : V p l e R s m args below meth c ad D cI cZ cG A nL kc ks Q σ pc lv (.long y :: .long x :: st) := by
  subst hq
  intro H locs ls hP hS hl
  refine lv_lor C.1 C.2.1 hd  ?_
  exact kk H locs ls hP hS hl
theorem x_i2lr {x : Int32} (C : Cx p s m args meth c ad D cI cZ cG A cc nL own ret) (hd : decode cc pc = .ok (.i2l, 1))  (hq : pc + 1 = q)
    (kk : V p l e R s m args below meth c ad D cI cZ cG A nL kc ks Q σ q lv (.long x.toInt64 :: st)) : V p l e R s m args below meth c ad D cI cZ cG A nL kc ks Q σ pc lv (.int x :: st) := by
  subst hq
  intro H locs ls hP hS hl
  refine lv_i2l C.1 C.2.1 hd rfl ?_
  exact kk H locs ls hP hS hl
theorem x_ldc2r {idx : Nat} {v : Int64} (C : Cx p s m args meth c ad D cI cZ cG A cc nL own ret) (hd : decode cc pc = .ok (.ldc2_w idx, 3)) (hw : Cond.constantLong own idx v ∈ TT) (hq : pc + 3 = q)
    (kk : V p l e R s m args below meth c ad D cI cZ cG A nL kc ks Q σ q lv (.long v :: st)) : V p l e R s m args below meth c ad D cI cZ cG A nL kc ks Q σ pc lv st := by
  subst hq
  intro H locs ls hP hS hl
  refine lv_ldc2 C.1 C.2.1 C.2.2.2.1 (C.2.2.2.2.1 _ hw) hd  ?_
  exact kk H locs ls hP hS hl
theorem x_dup {va : Value} (C : Cx p s m args meth c ad D cI cZ cG A cc nL own ret) (hd : decode cc pc = .ok (.dup, 1)) (hv : va.category = 1) (hq : pc + 1 = q)
    (kk : V p l e R s m args below meth c ad D cI cZ cG A nL kc ks Q σ q lv (va :: va :: st)) : V p l e R s m args below meth c ad D cI cZ cG A nL kc ks Q σ pc lv (va :: st) := by
  subst hq
  intro H locs ls hP hS hl
  refine lv_dup C.1 C.2.1 hd hv ?_
  exact kk H locs ls hP hS hl
theorem x_dup2 {va vb : Value} (C : Cx p s m args meth c ad D cI cZ cG A cc nL own ret) (hd : decode cc pc = .ok (.dup2, 1)) (hv : va.category = 1) (hb : vb.category = 1) (hq : pc + 1 = q)
    (kk : V p l e R s m args below meth c ad D cI cZ cG A nL kc ks Q σ q lv (va :: vb :: va :: vb :: st)) : V p l e R s m args below meth c ad D cI cZ cG A nL kc ks Q σ pc lv (va :: vb :: st) := by
  subst hq
  intro H locs ls hP hS hl
  refine lv_dup2_11 C.1 C.2.1 hd hv hb ?_
  exact kk H locs ls hP hS hl
theorem x_pop {va : Value} (C : Cx p s m args meth c ad D cI cZ cG A cc nL own ret) (hd : decode cc pc = .ok (.pop, 1)) (hv : va.category = 1) (hq : pc + 1 = q)
    (kk : V p l e R s m args below meth c ad D cI cZ cG A nL kc ks Q σ q lv st) : V p l e R s m args below meth c ad D cI cZ cG A nL kc ks Q σ pc lv (va :: st) := by
  subst hq
  intro H locs ls hP hS hl
  refine lv_pop C.1 C.2.1 hd hv ?_
  exact kk H locs ls hP hS hl
theorem x_icmp_eq {a b off : Int} {tgt : Nat} (C : Cx p s m args meth c ad D cI cZ cG A cc nL own ret) (hd : decode cc pc = .ok (.if_icmp .eq off, 3)) (ht : (pc : Int) + off = (tgt : Int)) (h : rg a ∧ rg b) (hq : pc + 3 = q)
    (kt : a = b → V p l e R s m args below meth c ad D cI cZ cG A nL kc ks Q σ tgt lv st) (kf : ¬ a = b → V p l e R s m args below meth c ad D cI cZ cG A nL kc ks Q σ q lv st) : V p l e R s m args below meth c ad D cI cZ cG A nL kc ks Q σ pc lv (.int (iI b) :: .int (iI a) :: st) := by
  subst hq
  intro H locs ls hP hS hl
  exact lv_icmp_eq C.1 C.2.1 hd ht (fun h1 => (fun h1 => kt ((iI_eq h).mp h1)) h1 H locs ls hP hS hl) (fun h1 => (fun h1 => kf (fun h2 => h1 ((iI_eq h).mpr h2))) h1 H locs ls hP hS hl)
theorem x_icmp_ne {a b off : Int} {tgt : Nat} (C : Cx p s m args meth c ad D cI cZ cG A cc nL own ret) (hd : decode cc pc = .ok (.if_icmp .ne off, 3)) (ht : (pc : Int) + off = (tgt : Int)) (h : rg a ∧ rg b) (hq : pc + 3 = q)
    (kt : ¬ a = b → V p l e R s m args below meth c ad D cI cZ cG A nL kc ks Q σ tgt lv st) (kf : a = b → V p l e R s m args below meth c ad D cI cZ cG A nL kc ks Q σ q lv st) : V p l e R s m args below meth c ad D cI cZ cG A nL kc ks Q σ pc lv (.int (iI b) :: .int (iI a) :: st) := by
  subst hq
  intro H locs ls hP hS hl
  exact lv_icmp_ne C.1 C.2.1 hd ht (fun h1 => (fun h1 => kt (fun h2 => h1 ((iI_eq h).mpr h2))) h1 H locs ls hP hS hl) (fun h1 => (fun h1 => kf ((iI_eq h).mp h1)) h1 H locs ls hP hS hl)
theorem x_icmp_lt {a b off : Int} {tgt : Nat} (C : Cx p s m args meth c ad D cI cZ cG A cc nL own ret) (hd : decode cc pc = .ok (.if_icmp .lt off, 3)) (ht : (pc : Int) + off = (tgt : Int)) (h : rg a ∧ rg b) (hq : pc + 3 = q)
    (kt : a < b → V p l e R s m args below meth c ad D cI cZ cG A nL kc ks Q σ tgt lv st) (kf : ¬ a < b → V p l e R s m args below meth c ad D cI cZ cG A nL kc ks Q σ q lv st) : V p l e R s m args below meth c ad D cI cZ cG A nL kc ks Q σ pc lv (.int (iI b) :: .int (iI a) :: st) := by
  subst hq
  intro H locs ls hP hS hl
  exact lv_icmp_lt C.1 C.2.1 hd ht (fun h1 => (fun h1 => kt ((iI_lt h).mp h1)) h1 H locs ls hP hS hl) (fun h1 => (fun h1 => kf (fun h2 => h1 ((iI_lt h).mpr h2))) h1 H locs ls hP hS hl)
theorem x_icmp_ge {a b off : Int} {tgt : Nat} (C : Cx p s m args meth c ad D cI cZ cG A cc nL own ret) (hd : decode cc pc = .ok (.if_icmp .ge off, 3)) (ht : (pc : Int) + off = (tgt : Int)) (h : rg a ∧ rg b) (hq : pc + 3 = q)
    (kt : b ≤ a → V p l e R s m args below meth c ad D cI cZ cG A nL kc ks Q σ tgt lv st) (kf : ¬ b ≤ a → V p l e R s m args below meth c ad D cI cZ cG A nL kc ks Q σ q lv st) : V p l e R s m args below meth c ad D cI cZ cG A nL kc ks Q σ pc lv (.int (iI b) :: .int (iI a) :: st) := by
  subst hq
  intro H locs ls hP hS hl
  exact lv_icmp_ge C.1 C.2.1 hd ht (fun h1 => (fun h1 => kt ((iI_le ⟨h.2, h.1⟩).mp h1)) h1 H locs ls hP hS hl) (fun h1 => (fun h1 => kf (fun h2 => h1 ((iI_le ⟨h.2, h.1⟩).mpr h2))) h1 H locs ls hP hS hl)
theorem x_icmp_gt {a b off : Int} {tgt : Nat} (C : Cx p s m args meth c ad D cI cZ cG A cc nL own ret) (hd : decode cc pc = .ok (.if_icmp .gt off, 3)) (ht : (pc : Int) + off = (tgt : Int)) (h : rg a ∧ rg b) (hq : pc + 3 = q)
    (kt : b < a → V p l e R s m args below meth c ad D cI cZ cG A nL kc ks Q σ tgt lv st) (kf : ¬ b < a → V p l e R s m args below meth c ad D cI cZ cG A nL kc ks Q σ q lv st) : V p l e R s m args below meth c ad D cI cZ cG A nL kc ks Q σ pc lv (.int (iI b) :: .int (iI a) :: st) := by
  subst hq
  intro H locs ls hP hS hl
  exact lv_icmp_gt C.1 C.2.1 hd ht (fun h1 => (fun h1 => kt ((iI_lt ⟨h.2, h.1⟩).mp h1)) h1 H locs ls hP hS hl) (fun h1 => (fun h1 => kf (fun h2 => h1 ((iI_lt ⟨h.2, h.1⟩).mpr h2))) h1 H locs ls hP hS hl)
theorem x_icmp_le {a b off : Int} {tgt : Nat} (C : Cx p s m args meth c ad D cI cZ cG A cc nL own ret) (hd : decode cc pc = .ok (.if_icmp .le off, 3)) (ht : (pc : Int) + off = (tgt : Int)) (h : rg a ∧ rg b) (hq : pc + 3 = q)
    (kt : a ≤ b → V p l e R s m args below meth c ad D cI cZ cG A nL kc ks Q σ tgt lv st) (kf : ¬ a ≤ b → V p l e R s m args below meth c ad D cI cZ cG A nL kc ks Q σ q lv st) : V p l e R s m args below meth c ad D cI cZ cG A nL kc ks Q σ pc lv (.int (iI b) :: .int (iI a) :: st) := by
  subst hq
  intro H locs ls hP hS hl
  exact lv_icmp_le C.1 C.2.1 hd ht (fun h1 => (fun h1 => kt ((iI_le h).mp h1)) h1 H locs ls hP hS hl) (fun h1 => (fun h1 => kf (fun h2 => h1 ((iI_le h).mpr h2))) h1 H locs ls hP hS hl)
theorem x_if_eq {a off : Int} {tgt : Nat} (C : Cx p s m args meth c ad D cI cZ cG A cc nL own ret) (hd : decode cc pc = .ok (.ifCond .eq off, 3)) (ht : (pc : Int) + off = (tgt : Int)) (h : rg a) (hq : pc + 3 = q)
    (kt : a = 0 → V p l e R s m args below meth c ad D cI cZ cG A nL kc ks Q σ tgt lv st) (kf : ¬ a = 0 → V p l e R s m args below meth c ad D cI cZ cG A nL kc ks Q σ q lv st) : V p l e R s m args below meth c ad D cI cZ cG A nL kc ks Q σ pc lv (.int (iI a) :: st) := by
  subst hq
  intro H locs ls hP hS hl
  exact lv_if_eq C.1 C.2.1 hd ht (fun h1 => (fun h1 => kt ((iI_eq (b := 0) ⟨h, by decide⟩).mp h1)) h1 H locs ls hP hS hl) (fun h1 => (fun h1 => kf (fun h2 => h1 ((iI_eq (b := 0) ⟨h, by decide⟩).mpr h2))) h1 H locs ls hP hS hl)
theorem x_if_ne {a off : Int} {tgt : Nat} (C : Cx p s m args meth c ad D cI cZ cG A cc nL own ret) (hd : decode cc pc = .ok (.ifCond .ne off, 3)) (ht : (pc : Int) + off = (tgt : Int)) (h : rg a) (hq : pc + 3 = q)
    (kt : ¬ a = 0 → V p l e R s m args below meth c ad D cI cZ cG A nL kc ks Q σ tgt lv st) (kf : a = 0 → V p l e R s m args below meth c ad D cI cZ cG A nL kc ks Q σ q lv st) : V p l e R s m args below meth c ad D cI cZ cG A nL kc ks Q σ pc lv (.int (iI a) :: st) := by
  subst hq
  intro H locs ls hP hS hl
  exact lv_if_ne C.1 C.2.1 hd ht (fun h1 => (fun h1 => kt (fun h2 => h1 ((iI_eq (b := 0) ⟨h, by decide⟩).mpr h2))) h1 H locs ls hP hS hl) (fun h1 => (fun h1 => kf ((iI_eq (b := 0) ⟨h, by decide⟩).mp h1)) h1 H locs ls hP hS hl)
theorem x_if_lt {a off : Int} {tgt : Nat} (C : Cx p s m args meth c ad D cI cZ cG A cc nL own ret) (hd : decode cc pc = .ok (.ifCond .lt off, 3)) (ht : (pc : Int) + off = (tgt : Int)) (h : rg a) (hq : pc + 3 = q)
    (kt : a < 0 → V p l e R s m args below meth c ad D cI cZ cG A nL kc ks Q σ tgt lv st) (kf : ¬ a < 0 → V p l e R s m args below meth c ad D cI cZ cG A nL kc ks Q σ q lv st) : V p l e R s m args below meth c ad D cI cZ cG A nL kc ks Q σ pc lv (.int (iI a) :: st) := by
  subst hq
  intro H locs ls hP hS hl
  exact lv_if_lt C.1 C.2.1 hd ht (fun h1 => (fun h1 => kt ((iI_lt (b := 0) ⟨h, by decide⟩).mp h1)) h1 H locs ls hP hS hl) (fun h1 => (fun h1 => kf (fun h2 => h1 ((iI_lt (b := 0) ⟨h, by decide⟩).mpr h2))) h1 H locs ls hP hS hl)
theorem x_if_ge {a off : Int} {tgt : Nat} (C : Cx p s m args meth c ad D cI cZ cG A cc nL own ret) (hd : decode cc pc = .ok (.ifCond .ge off, 3)) (ht : (pc : Int) + off = (tgt : Int)) (h : rg a) (hq : pc + 3 = q)
    (kt : 0 ≤ a → V p l e R s m args below meth c ad D cI cZ cG A nL kc ks Q σ tgt lv st) (kf : ¬ 0 ≤ a → V p l e R s m args below meth c ad D cI cZ cG A nL kc ks Q σ q lv st) : V p l e R s m args below meth c ad D cI cZ cG A nL kc ks Q σ pc lv (.int (iI a) :: st) := by
  subst hq
  intro H locs ls hP hS hl
  exact lv_if_ge C.1 C.2.1 hd ht (fun h1 => (fun h1 => kt ((iI_le (a := 0) (b := a) ⟨by decide, h⟩).mp h1)) h1 H locs ls hP hS hl) (fun h1 => (fun h1 => kf (fun h2 => h1 ((iI_le (a := 0) (b := a) ⟨by decide, h⟩).mpr h2))) h1 H locs ls hP hS hl)
theorem x_if_gt {a off : Int} {tgt : Nat} (C : Cx p s m args meth c ad D cI cZ cG A cc nL own ret) (hd : decode cc pc = .ok (.ifCond .gt off, 3)) (ht : (pc : Int) + off = (tgt : Int)) (h : rg a) (hq : pc + 3 = q)
    (kt : 0 < a → V p l e R s m args below meth c ad D cI cZ cG A nL kc ks Q σ tgt lv st) (kf : ¬ 0 < a → V p l e R s m args below meth c ad D cI cZ cG A nL kc ks Q σ q lv st) : V p l e R s m args below meth c ad D cI cZ cG A nL kc ks Q σ pc lv (.int (iI a) :: st) := by
  subst hq
  intro H locs ls hP hS hl
  exact lv_if_gt C.1 C.2.1 hd ht (fun h1 => (fun h1 => kt ((iI_lt (a := 0) (b := a) ⟨by decide, h⟩).mp h1)) h1 H locs ls hP hS hl) (fun h1 => (fun h1 => kf (fun h2 => h1 ((iI_lt (a := 0) (b := a) ⟨by decide, h⟩).mpr h2))) h1 H locs ls hP hS hl)
theorem x_if_le {a off : Int} {tgt : Nat} (C : Cx p s m args meth c ad D cI cZ cG A cc nL own ret) (hd : decode cc pc = .ok (.ifCond .le off, 3)) (ht : (pc : Int) + off = (tgt : Int)) (h : rg a) (hq : pc + 3 = q)
    (kt : a ≤ 0 → V p l e R s m args below meth c ad D cI cZ cG A nL kc ks Q σ tgt lv st) (kf : ¬ a ≤ 0 → V p l e R s m args below meth c ad D cI cZ cG A nL kc ks Q σ q lv st) : V p l e R s m args below meth c ad D cI cZ cG A nL kc ks Q σ pc lv (.int (iI a) :: st) := by
  subst hq
  intro H locs ls hP hS hl
  exact lv_if_le C.1 C.2.1 hd ht (fun h1 => (fun h1 => kt ((iI_le (b := 0) ⟨h, by decide⟩).mp h1)) h1 H locs ls hP hS hl) (fun h1 => (fun h1 => kf (fun h2 => h1 ((iI_le (b := 0) ⟨h, by decide⟩).mpr h2))) h1 H locs ls hP hS hl)
theorem x_goto {off : Int} {tgt : Nat} (C : Cx p s m args meth c ad D cI cZ cG A cc nL own ret) (hd : decode cc pc = .ok (.goto off, 3)) (ht : (pc : Int) + off = (tgt : Int)) (kk : V p l e R s m args below meth c ad D cI cZ cG A nL kc ks Q σ tgt lv st) : V p l e R s m args below meth c ad D cI cZ cG A nL kc ks Q σ pc lv st := by
  intro H locs ls hP hS hl
  exact lv_goto C.1 C.2.1 hd ht (kk H locs ls hP hS hl)
theorem x_table {dflt lo hi a : Int} {offs : Array Int} {len : Nat} (C : Cx p s m args meth c ad D cI cZ cG A cc nL own ret) (hd : decode cc pc = .ok (.tableswitch dflt lo hi offs, len)) (h : rg a) (td : Nat) (htd : (pc : Int) + dflt = (td : Int)) (tg : List Nat) (hn : offs.toList.map (fun o => (pc : Int) + o) = tg.map (fun (t : Nat) => (t : Int))) (hh : hi - lo + 1 = (tg.length : Int))
    (kd : a < lo ∨ hi < a → V p l e R s m args below meth c ad D cI cZ cG A nL kc ks Q σ td lv st) (kk : ∀ (i t : Nat), tg[i]? = some t → a = lo + i → V p l e R s m args below meth c ad D cI cZ cG A nL kc ks Q σ t lv st) : V p l e R s m args below meth c ad D cI cZ cG A nL kc ks Q σ pc lv (.int (iI a) :: st) := by
  intro H locs ls hP hS hl
  have ea : (iI a).toInt = a := iI_toInt h
  by_cases h1 : a < lo
  · exact lv_tableOut C.1 C.2.1 hd (Or.inl (by rw [ea]; exact h1)) htd (kd (Or.inl h1) H locs ls hP hS hl)
  · by_cases h2 : hi < a
    · exact lv_tableOut C.1 C.2.1 hd (Or.inr (by rw [ea]; exact h2)) htd (kd (Or.inr h2) H locs ls hP hS hl)
    · have hlt : (a - lo).toNat < tg.length := by omega
      obtain ⟨t, et⟩ : ∃ t, tg[(a - lo).toNat]? = some t := ⟨_, List.getElem?_eq_getElem hlt⟩
      have e2 : (offs.toList.map (fun o => (pc : Int) + o))[(a - lo).toNat]? = some (t : Int) := by rw [hn, List.getElem?_map, et]; rfl
      rw [List.getElem?_map, Option.map_eq_some_iff] at e2
      obtain ⟨off, e3, e4⟩ := e2
      exact lv_tableIn C.1 C.2.1 hd (by rw [ea]; exact h1) (by rw [ea]; exact h2) (by rw [ea, ← Array.getElem?_toList]; exact e3) e4 (kk (a - lo).toNat t et (by omega) H locs ls hP hS hl)
theorem x_lookup2 {dflt a v1 o1 v2 o2 : Int} {len : Nat} (C : Cx p s m args meth c ad D cI cZ cG A cc nL own ret) (hd : decode cc pc = .ok (.lookupswitch dflt #[(v1, o1), (v2, o2)], len)) (h : rg a) (h12 : v1 < v2) (td t1 t2 : Nat) (htd : (pc : Int) + dflt = (td : Int)) (ht1 : (pc : Int) + o1 = (t1 : Int)) (ht2 : (pc : Int) + o2 = (t2 : Int))
    (k1 : a = v1 → V p l e R s m args below meth c ad D cI cZ cG A nL kc ks Q σ t1 lv st) (k2 : a = v2 → V p l e R s m args below meth c ad D cI cZ cG A nL kc ks Q σ t2 lv st) (kd : a ≠ v1 → a ≠ v2 → V p l e R s m args below meth c ad D cI cZ cG A nL kc ks Q σ td lv st) : V p l e R s m args below meth c ad D cI cZ cG A nL kc ks Q σ pc lv (.int (iI a) :: st) := by
  intro H locs ls hP hS hl
  have ea : (iI a).toInt = a := iI_toInt h
  have hp : ((#[(v1, o1), (v2, o2)] : Array (Int × Int)).toList.zip ((#[(v1, o1), (v2, o2)] : Array (Int × Int)).toList.drop 1)).all (fun (a, next) => a.1 < next.1) = true := by simp [h12]
  by_cases e1 : a = v1
  · exact lv_lookup C.1 C.2.1 hd hp (off := o1) (by rw [ea, e1]; simp [Op.lookupswitch.offset]) ht1 (k1 e1 H locs ls hP hS hl)
  · by_cases e2 : a = v2
    · exact lv_lookup C.1 C.2.1 hd hp (off := o2) (by rw [ea, e2]; simp [Op.lookupswitch.offset, show ¬ v1 = v2 by omega, show ¬ v2 = v1 by omega]) ht2 (k2 e2 H locs ls hP hS hl)
    · exact lv_lookup C.1 C.2.1 hd hp (off := dflt) (by rw [ea]; simp [Op.lookupswitch.offset, e1, e2, show ¬ v1 = a from fun z => e1 z.symm, show ¬ v2 = a from fun z => e2 z.symm]) htd (kd e1 e2 H locs ls hP hS hl)
theorem x_getI {k : Nat} (C : Cx p s m args meth c ad D cI cZ cG A cc nL own ret) (hk : k < 65) {ci : Nat} {fl : List (Option (Option Nat))} (hl0 : lay k = cO ci fl) {Cn : String} {T : u_T} {N j idx : Nat} (F : FldOK own idx ci j Cn T N) (hf : fl[j]? = some (fi)) (hd : decode cc pc = .ok (.getfield idx, 3)) (hq : pc + 3 = q)
    (kk : V p l e R s m args below meth c ad D cI cZ cG A nL kc ks Q σ q lv (.int (iI (σ k j)) :: st)) : V p l e R s m args below meth c ad D cI cZ cG A nL kc ks Q σ pc lv (.ref (ad k) :: st) := by
  subst hq
  intro H locs ls hP hS hl
  have hE : xE ad cI cZ cG σ k = .inr (ci, fvs ad (σ k) 0 fl) := by unfold xE; rw [hl0]; rfl
  exact va_get C.1 C.2.1 C.2.2.2.2.1 F.2.2.1 C.2.2.2.1 C.2.2.2.2.2.1.1 hP k (wl_get hk hE) F.1 j F.2.1 (C.2.2.2.2.1 _ F.2.2.2) (fun _ h9 => h9) (by rw [fvs_get, hf]; simp [fv, fi, f_, fl_]) hd (kk H locs ls hP hS hl)
theorem x_getR {k c0 : Nat} (C : Cx p s m args meth c ad D cI cZ cG A cc nL own ret) (hk : k < 65) {ci : Nat} {fl : List (Option (Option Nat))} (hl0 : lay k = cO ci fl) {Cn : String} {T : u_T} {N j idx : Nat} (F : FldOK own idx ci j Cn T N) (hf : fl[j]? = some (f_ c0)) (hd : decode cc pc = .ok (.getfield idx, 3)) (hq : pc + 3 = q)
    (kk : V p l e R s m args below meth c ad D cI cZ cG A nL kc ks Q σ q lv (.ref (ad c0) :: st)) : V p l e R s m args below meth c ad D cI cZ cG A nL kc ks Q σ pc lv (.ref (ad k) :: st) := by
  subst hq
  intro H locs ls hP hS hl
  have hE : xE ad cI cZ cG σ k = .inr (ci, fvs ad (σ k) 0 fl) := by unfold xE; rw [hl0]; rfl
  exact va_get C.1 C.2.1 C.2.2.2.2.1 F.2.2.1 C.2.2.2.1 C.2.2.2.2.2.1.1 hP k (wl_get hk hE) F.1 j F.2.1 (C.2.2.2.2.1 _ F.2.2.2) (fun _ h9 => h9) (by rw [fvs_get, hf]; simp [fv, fi, f_, fl_]) hd (kk H locs ls hP hS hl)
theorem x_getL {k : Nat} (C : Cx p s m args meth c ad D cI cZ cG A cc nL own ret) (hk : k < 65) {ci : Nat} {fl : List (Option (Option Nat))} (hl0 : lay k = cO ci fl) {Cn : String} {T : u_T} {N j idx : Nat} (F : FldOK own idx ci j Cn T N) (hf : fl[j]? = some (fl_)) (hd : decode cc pc = .ok (.getfield idx, 3)) (hq : pc + 3 = q)
    (kk : V p l e R s m args below meth c ad D cI cZ cG A nL kc ks Q σ q lv (.long (lI (σ k j)) :: st)) : V p l e R s m args below meth c ad D cI cZ cG A nL kc ks Q σ pc lv (.ref (ad k) :: st) := by
  subst hq
  intro H locs ls hP hS hl
  have hE : xE ad cI cZ cG σ k = .inr (ci, fvs ad (σ k) 0 fl) := by unfold xE; rw [hl0]; rfl
  exact va_get C.1 C.2.1 C.2.2.2.2.1 F.2.2.1 C.2.2.2.1 C.2.2.2.2.2.1.1 hP k (wl_get hk hE) F.1 j F.2.1 (C.2.2.2.2.1 _ F.2.2.2) (fun _ h9 => h9) (by rw [fvs_get, hf]; simp [fv, fi, f_, fl_]) hd (kk H locs ls hP hS hl)
theorem x_putI {k : Nat} {z : Int} (C : Cx p s m args meth c ad D cI cZ cG A cc nL own ret) (hk : k < 65) {ci : Nat} {fl : List (Option (Option Nat))} (hl0 : lay k = cO ci fl) {Cn : String} {T : u_T} {N j idx : Nat} (F : FldOK own idx ci j Cn T N) (hf : fl[j]? = some fi) (ty0 : Nat → FieldType) (hty : ∀ k, k < N → parseFieldDescriptor (T k).2.2.1 = some (ty0 k)) (hnm : ∀ a, a < N → ∀ b, b < N → a ≠ b → (T a).2.1 ≠ (T b).2.1) (hfin : (T j).2.2.2 = false) (hdt : parseFieldDescriptor (T j).2.2.1 = some .int) (hd : decode cc pc = .ok (.putfield idx, 3)) (hq : pc + 3 = q)
    (kk : V p l e R s m args below meth c ad D cI cZ cG A nL kc ks Q (up2 σ k j z) q lv st) : V p l e R s m args below meth c ad D cI cZ cG A nL kc ks Q σ pc lv (.int (iI z) :: .ref (ad k) :: st) := by
  subst hq
  intro H locs ls hP hS hl
  have hE : xE ad cI cZ cG σ k = .inr (ci, fvs ad (σ k) 0 fl) := by unfold xE; rw [hl0]; rfl
  have hlen : j < (fvs ad (σ k) 0 fl).length := by
    rcases Nat.lt_or_ge j (fvs ad (σ k) 0 fl).length with q9 | q9
    · exact q9
    · have h9 := fvs_get ad (σ k) fl 0 j
      rw [List.getElem?_eq_none q9, hf] at h9
      simp at h9
  refine va_put C.1 C.2.1 C.2.2.2.2.1 F.2.2.1 ty0 hty hnm C.2.2.2.1 C.2.2.2.2.2.1.1 hP (wl_D C.2.2.2.2.2.2.1 C.2.2.2.2.2.2.2.1 σ) hS k (wl_get hk hE) F.1 j F.2.1 (C.2.2.2.2.1 _ F.2.2.2) (fun _ h9 => h9) hfin hdt rfl rfl hlen hd (fun H1 locs1 hP1 _ hS1 => ?_)
  rw [fvs_set hf z (.int (iI z)) rfl (fun c h => by cases h)] at hP1
  rw [wl_set (σ' := up2 σ k j z) hk (by unfold xE; rw [hl0]; simp [cO, up2, upR]) (fun i hi => xE_other i hi)] at hP1
  exact kk H1 locs1 ls hP1 hS1 hl
theorem x_putL {k : Nat} {z : Int} (C : Cx p s m args meth c ad D cI cZ cG A cc nL own ret) (hk : k < 65) {ci : Nat} {fl : List (Option (Option Nat))} (hl0 : lay k = cO ci fl) {Cn : String} {T : u_T} {N j idx : Nat} (F : FldOK own idx ci j Cn T N) (hf : fl[j]? = some fl_) (ty0 : Nat → FieldType) (hty : ∀ k, k < N → parseFieldDescriptor (T k).2.2.1 = some (ty0 k)) (hnm : ∀ a, a < N → ∀ b, b < N → a ≠ b → (T a).2.1 ≠ (T b).2.1) (hfin : (T j).2.2.2 = false) (hdt : parseFieldDescriptor (T j).2.2.1 = some .long) (hd : decode cc pc = .ok (.putfield idx, 3)) (hq : pc + 3 = q)
    (kk : V p l e R s m args below meth c ad D cI cZ cG A nL kc ks Q (up2 σ k j z) q lv st) : V p l e R s m args below meth c ad D cI cZ cG A nL kc ks Q σ pc lv (.long (lI z) :: .ref (ad k) :: st) := by
  subst hq
  intro H locs ls hP hS hl
  have hE : xE ad cI cZ cG σ k = .inr (ci, fvs ad (σ k) 0 fl) := by unfold xE; rw [hl0]; rfl
  have hlen : j < (fvs ad (σ k) 0 fl).length := by
    rcases Nat.lt_or_ge j (fvs ad (σ k) 0 fl).length with q9 | q9
    · exact q9
    · have h9 := fvs_get ad (σ k) fl 0 j
      rw [List.getElem?_eq_none q9, hf] at h9
      simp at h9
  refine va_put C.1 C.2.1 C.2.2.2.2.1 F.2.2.1 ty0 hty hnm C.2.2.2.1 C.2.2.2.2.2.1.1 hP (wl_D C.2.2.2.2.2.2.1 C.2.2.2.2.2.2.2.1 σ) hS k (wl_get hk hE) F.1 j F.2.1 (C.2.2.2.2.1 _ F.2.2.2) (fun _ h9 => h9) hfin hdt rfl rfl hlen hd (fun H1 locs1 hP1 _ hS1 => ?_)
  rw [fvs_set hf z (.long (lI z)) rfl (fun c h => by cases h)] at hP1
  rw [wl_set (σ' := up2 σ k j z) hk (by unfold xE; rw [hl0]; simp [cO, up2, upR]) (fun i hi => xE_other i hi)] at hP1
  exact kk H1 locs1 ls hP1 hS1 hl
theorem x_iald {k n : Nat} {i : Int} (C : Cx p s m args meth c ad D cI cZ cG A cc nL own ret) (hk : k < 65) (hl0 : lay k = cA n) (hd : decode cc pc = .ok (.iaload, 1)) (hi : 0 ≤ i ∧ i < (n : Int)) (hn : n < 2147483648) (hq : pc + 1 = q)
    (kk : V p l e R s m args below meth c ad D cI cZ cG A nL kc ks Q σ q lv (.int (iI (σ k i.toNat)) :: st)) : V p l e R s m args below meth c ad D cI cZ cG A nL kc ks Q σ pc lv (.int (iI i) :: .ref (ad k) :: st) := by
  subst hq
  intro H locs ls hP hS hl
  have hE : xE ad cI cZ cG σ k = .inl (cI, n, .inl (fun i => iI (σ k i))) := by unfold xE; rw [hl0]; rfl
  refine va_iald C.1 C.2.1 C.2.2.2.2.2.1.1 hP k 0 (wl_get hk hE) rfl (iI_in hi.1 hi.2 hn) hd ?_
  rw [iI_clamp hi.1 (by omega)]
  exact kk H locs ls hP hS hl
theorem x_bald {k n : Nat} {i : Int} (C : Cx p s m args meth c ad D cI cZ cG A cc nL own ret) (hk : k < 65) (hl0 : lay k = cB n) (hd : decode cc pc = .ok (.baload, 1)) (hi : 0 ≤ i ∧ i < (n : Int)) (hn : n < 2147483648) (hq : pc + 1 = q)
    (kk : V p l e R s m args below meth c ad D cI cZ cG A nL kc ks Q σ q lv (.int (iI (σ k i.toNat)) :: st)) : V p l e R s m args below meth c ad D cI cZ cG A nL kc ks Q σ pc lv (.int (iI i) :: .ref (ad k) :: st) := by
  subst hq
  intro H locs ls hP hS hl
  have hE : xE ad cI cZ cG σ k = .inl (cZ, n, .inl (fun i => iI (σ k i))) := by unfold xE; rw [hl0]; rfl
  refine va_zald C.1 C.2.1 C.2.2.2.2.2.1.1 hP k 1 (wl_get hk hE) rfl (iI_in hi.1 hi.2 hn) hd ?_
  rw [iI_clamp hi.1 (by omega)]
  exact kk H locs ls hP hS hl
theorem x_iast {k n : Nat} {i z : Int} (C : Cx p s m args meth c ad D cI cZ cG A cc nL own ret) (hk : k < 65) (hl0 : lay k = cA n) (hd : decode cc pc = .ok (.iastore, 1)) (hi : 0 ≤ i ∧ i < (n : Int)) (hn : n < 2147483648)  (hq : pc + 1 = q)
    (kk : V p l e R s m args below meth c ad D cI cZ cG A nL kc ks Q (up2 σ k i.toNat z) q lv st) : V p l e R s m args below meth c ad D cI cZ cG A nL kc ks Q σ pc lv (.int (iI z) :: .int (iI i) :: .ref (ad k) :: st) := by
  subst hq
  intro H locs ls hP hS hl
  have hE : xE ad cI cZ cG σ k = .inl (cI, n, .inl (fun i => iI (σ k i))) := by unfold xE; rw [hl0]; rfl
  refine va_iast C.1 C.2.1 C.2.2.2.2.2.1.1 hP (wl_D C.2.2.2.2.2.2.1 C.2.2.2.2.2.2.2.1 σ) hS k 0 (wl_get hk hE) rfl (iI_in hi.1 hi.2 hn) hd (fun H1 locs1 hP1 _ hS1 => ?_)
  have hE2 : xE ad cI cZ cG (up2 σ k i.toNat z) k = .inl (cI, n, .inl (upd (fun i => iI (σ k i)) (iI i).toNatClampNeg (iI z))) := by
    have e0 : upd (fun i => iI (σ k i)) (iI i).toNatClampNeg (iI z) = fun j => iI (up2 σ k i.toNat z k j) := by
      funext j
      rw [iI_clamp hi.1 (by omega)]
      by_cases e : j = i.toNat
      · simp [upd, up2, upR, up1, e]
      · simp [upd, up2, upR, up1, e]
    unfold xE
    rw [hl0, e0]
    rfl
  rw [wl_set (σ' := up2 σ k i.toNat z) hk hE2 (fun j hj => xE_other j hj)] at hP1
  exact kk H1 locs1 ls hP1 hS1 hl
theorem x_bast {k n : Nat} {i z : Int} (C : Cx p s m args meth c ad D cI cZ cG A cc nL own ret) (hk : k < 65) (hl0 : lay k = cB n) (hd : decode cc pc = .ok (.bastore, 1)) (hi : 0 ≤ i ∧ i < (n : Int)) (hn : n < 2147483648) (hz : z = 0 ∨ z = 1) (hq : pc + 1 = q)
    (kk : V p l e R s m args below meth c ad D cI cZ cG A nL kc ks Q (up2 σ k i.toNat z) q lv st) : V p l e R s m args below meth c ad D cI cZ cG A nL kc ks Q σ pc lv (.int (iI z) :: .int (iI i) :: .ref (ad k) :: st) := by
  subst hq
  intro H locs ls hP hS hl
  have hE : xE ad cI cZ cG σ k = .inl (cZ, n, .inl (fun i => iI (σ k i))) := by unfold xE; rw [hl0]; rfl
  refine va_zast C.1 C.2.1 C.2.2.2.2.2.1.1 hP (wl_D C.2.2.2.2.2.2.1 C.2.2.2.2.2.2.2.1 σ) hS k 1 (wl_get hk hE) rfl (iI_in hi.1 hi.2 hn) hd (fun H1 locs1 hP1 _ hS1 => ?_)
  have hE2 : xE ad cI cZ cG (up2 σ k i.toNat z) k = .inl (cZ, n, .inl (upd (fun i => iI (σ k i)) (iI i).toNatClampNeg (vp_nar .boolean (iI z)))) := by
    have e0 : upd (fun i => iI (σ k i)) (iI i).toNatClampNeg (vp_nar .boolean (iI z)) = fun j => iI (up2 σ k i.toNat z k j) := by
      funext j
      rw [iI_clamp hi.1 (by omega)]
      by_cases e : j = i.toNat
      · simp [upd, up2, upR, up1, e, show vp_nar .boolean (iI z) = iI z by rcases hz with rfl | rfl <;> rfl]
      · simp [upd, up2, upR, up1, e]
    unfold xE
    rw [hl0, e0]
    rfl
  rw [wl_set (σ' := up2 σ k i.toNat z) hk hE2 (fun j hj => xE_other j hj)] at hP1
  exact kk H1 locs1 ls hP1 hS1 hl
theorem x_aald {k n base : Nat} {i : Int} (C : Cx p s m args meth c ad D cI cZ cG A cc nL own ret) (hk : k < 65) (hl0 : lay k = cR n base) (hd : decode cc pc = .ok (.aaload, 1)) (hi : 0 ≤ i ∧ i < (n : Int)) (hn : n < 2147483648) (hq : pc + 1 = q)
    (kk : V p l e R s m args below meth c ad D cI cZ cG A nL kc ks Q σ q lv (.ref (ad (base + i.toNat)) :: st)) : V p l e R s m args below meth c ad D cI cZ cG A nL kc ks Q σ pc lv (.int (iI i) :: .ref (ad k) :: st) := by
  subst hq
  intro H locs ls hP hS hl
  have hE : xE ad cI cZ cG σ k = .inl (cG, n, .inr (.inr (.inr (.inr (fun i => if i < n then some (ad (base + i)) else none))))) := by unfold xE; rw [hl0]; rfl
  have hlt : (iI i).toNatClampNeg < n := by rw [iI_clamp hi.1 (by omega)]; omega
  have e1 : va_rf (if (iI i).toNatClampNeg < n then some (ad (base + (iI i).toNatClampNeg)) else none) = .ref (ad (base + i.toNat)) := by
    rw [if_pos hlt, iI_clamp hi.1 (by omega)]
    rfl
  exact W.aald (v := .ref (ad (base + i.toNat))) (ty := .array .int) C.1 C.2.1 (hP k _ (wl_get hk hE)) ((C.2.2.2.2.2.1.1.2 2 _ rfl).1 n (fun j => va_rf (if j < n then some (ad (base + j)) else none))) rfl (fun h9 => by cases h9) (by show ¬ (iI i < 0 ∨ (arrV _ _ _).slots.size ≤ _); rw [arrV_size]; exact iI_in hi.1 hi.2 hn) (by show (arrV _ _ _).slots[_]? = _; rw [arrV_read _ _ hlt, e1]) rfl rfl hd (kk H locs ls hP hS hl)
theorem x_alen {k n : Nat} (C : Cx p s m args meth c ad D cI cZ cG A cc nL own ret) (hk : k < 65) (hl0 : lay k = cA n) (hd : decode cc pc = .ok (.arraylength, 1)) (hq : pc + 1 = q)
    (kk : V p l e R s m args below meth c ad D cI cZ cG A nL kc ks Q σ q lv (.int (iI (n : Int)) :: st)) : V p l e R s m args below meth c ad D cI cZ cG A nL kc ks Q σ pc lv (.ref (ad k) :: st) := by
  subst hq
  intro H locs ls hP hS hl
  have hE : xE ad cI cZ cG σ k = .inl (cI, n, .inl (fun i => iI (σ k i))) := by unfold xE; rw [hl0]; rfl
  exact va_alen C.1 C.2.1 C.2.2.2.2.2.1.1 hP k 0 (wl_get hk hE) rfl (iI_nat n).symm hd (kk H locs ls hP hS hl)
end XR
