def nw_11 : Cond := .methodLinkNest RX9 11 yX3_init RX9
def nw_18 : Cond := .methodLinkNest RX9 18 yX1_init RX9
def nw_53 : Cond := .methodLinkNest RX9 53 yX8_init RX9
def nw_60 : Cond := .methodLinkNest RX9 60 yX0_init RX9
def nw_67 : Cond := .methodLinkNest RX9 67 yX4_init RX9
def nw_74 : Cond := .methodLinkNest RX9 74 yX5_init RX9
def nwO : Cond := .arrayOver (.array .int)
/-- what a constructor needs of the tables beside the words -/
def Kc (D : va_G) (cI cZ cG : ClassId) (U : State) : Prop := Kw D cI cZ cG U ∧ va_Nw nw_11 U ∧ va_Nw nw_18 U ∧ va_Nw nw_53 U ∧ va_Nw nw_60 U ∧ va_Nw nw_67 U ∧ va_Nw nw_74 U ∧ nwO.before #[] U = true
theorem Kc.warm {D : va_G} {cI cZ cG : ClassId} {s U : State} (hW : s.WarmedH U.vm) (h : Kc D cI cZ cG s) : Kc D cI cZ cG U := by
  obtain ⟨h0, h1, h2, h3, h4, h5, h6, h7⟩ := h
  exact ⟨h0.warm hW, va_Nw.warmM hW h1, va_Nw.warmM hW h2, va_Nw.warmM hW h3, va_Nw.warmM hW h4, va_Nw.warmM hW h5, va_Nw.warmM hW h6, (Cond.arrayOver_setVmC (args := #[]) hW.alike (.array .int)).trans h7⟩
theorem Kc.call {D : va_G} {cI cZ cG : ClassId} {U : State} (g : JFrame) (mk : MethodId) (a : Array Value) (h : Kc D cI cZ cG U) : Kc D cI cZ cG (U.calling g mk a) := by
  obtain ⟨h0, h1, h2, h3, h4, h5, h6, h7⟩ := h
  exact ⟨h0.call g mk a, va_Nw.same rfl (u := U) (U := U.calling g mk a) rfl h1, va_Nw.same rfl (u := U) (U := U.calling g mk a) rfl h2, va_Nw.same rfl (u := U) (U := U.calling g mk a) rfl h3, va_Nw.same rfl (u := U) (U := U.calling g mk a) rfl h4, va_Nw.same rfl (u := U) (U := U.calling g mk a) rfl h5, va_Nw.same rfl (u := U) (U := U.calling g mk a) rfl h6, h7⟩
def Cg (p : Program) (s : State) (m : MethodId) (args : Array Value) (meth : Method) (c : Code) (D : va_G) (cI cZ cG : ClassId) (A : Nat → Prop) (cc : ByteArray) (nL : Nat) (own : String) (nm : Bool) (rt : Option FieldType) : Prop :=
  p.tables.exec = Jvm.exec ∧ c.code = cc ∧ c.maxLocals = nL ∧ s.vm.findClass own = some m.cls ∧ (∀ w ∈ TT, w.before args s = true) ∧ Kc D cI cZ cG s ∧ (∀ q, s.heap.size ≤ q → A q) ∧ meth.sig.returnType = rt ∧ meth.locks = false ∧ (nm = true → meth.name = "<init>")
def G (p : Program) (l : Launch) (e : Env) (R : Room) (s : State) (m : MethodId) (args : Array Value) (below : List Frame) (meth : Method) (c : Code) (D : va_G) (A : Nat → Prop) (nL : Nat) (Q : State → Prop) (kc ks : Nat) (ws : va_W) (pc : Nat) (lv : List (Nat × Value)) (st : List Value) : Prop :=
  ∀ (H : Heap) (locs : List Loc) (ls : Array Slot), va_P D vwCl ws H → va_D A ws → va_S A s.heap H locs → lv_has ls nL lv → W p l e R s m args below meth c H locs kc ks Q (F0 m pc ls st)
/-- a constructor's start: its own cell alone -/
def WdC (D : va_G) (cI cZ cG : ClassId) (ws : va_W) (sz : Nat) (U : State) : Prop := U.heap.size = sz ∧ va_P D vwCl ws U.heap ∧ Kc D cI cZ cG U ∧ va_D (fun _ => True) ws
def WhC (D : va_G) (A : Nat → Prop) (W1 : (Nat → Nat) → va_W) (u : Nat → Nat) (t : State) : Prop := va_P D vwCl (W1 u) t.heap ∧ va_D A (W1 u)
def QC (D : va_G) (A : Nat → Prop) (W1 : (Nat → Nat) → va_W) := va_Qv (fun _ : Nat → Nat => True) (WhC D A W1) A
theorem met_G {l : Launch} {D : va_G} {cI cZ cG : ClassId} {y : MethodName} {cc : ByteArray} {maxL : Nat} {rm : Room} {av : List Value} {ws : va_W} {sz mc ms : Nat} {W1 : (Nat → Nat) → va_W} {own : String} {nm : Bool} (hy : plainFor y = true) (ho : y.cls = own) (hnm : nm = true → y.name = "<init>") (hlen : (lg_sl av).length ≤ maxL)
    (body : ∀ (p : Program) (e : Env) (s : State) (m : MethodId) (args : Array Value) (below : List Frame) (meth : Method) (c : Code) (A : Nat → Prop), va_A ws sz = A → va_D A ws → Cg p s m args meth c D cI cZ cG A cc maxL own nm none → G p l e rm s m args below meth c D A maxL (MQ below (QC D A W1) args s mc ms A) 0 0 ws 0 (lv_args 0 av) []) :
    Met l y (wX y cc maxL none) rm (va_Pc av (WdC D cI cZ cG ws sz)) (QC D (va_A ws sz) W1) mc ms (va_A ws sz) := by
  refine va_MetF (cc := cc) (maxL := maxL) (ret := none) hy rfl ?_
  intro p e s m args below meth c s₁ B hml hv
  obtain ⟨rfl, hsz, hP, hK, hD0⟩ := hv
  have hts := atoms_spec (ws := wX y cc maxL none) B.pre
  have hown : s.vm.findClass own = some m.cls := by rw [← ho]; exact findClass_of_methodNamed B.named
  have hin : nm = true → meth.name = "<init>" := fun h => by rw [(name_of_methodNamed B.named B.method).1]; exact hnm h
  have hl := lv_entry av (n := maxL) hlen
  rw [lg_entry_eq]
  subst hsz
  have hD := hD0.self (sz := s.heap.size)
  generalize hAe : va_A ws s.heap.size = A at hD ⊢
  have hA : ∀ q : Nat, s.heap.size ≤ q → A q := fun q h => by rw [← hAe]; exact Or.inr h
  exact body p e s m av.toArray below meth c A hAe hD ⟨B.exec, B.bytes, hml, hown, fun w hw => hts w (List.mem_cons_of_mem _ hw), hK, hA, B.returns, B.notSynchronized, hin⟩ s.heap [] _ hP hD va_S.rf hl
section GR
variable {p : Program} {l : Launch} {e : Env} {R : Room} {s : State} {m : MethodId} {args : Array Value} {below : List Frame} {meth : Method} {c : Code} {D : va_G} {cI cZ cG : ClassId} {A : Nat → Prop} {cc : ByteArray} {nL : Nat} {own : String} {nm : Bool} {rt : Option FieldType} {Q : State → Prop} {kc ks : Nat} {ws : va_W} {pc q : Nat} {lv lv' : List (Nat × Value)} {st : List Value}
theorem g_iconst {n z : Int} (C : Cg p s m args meth c D cI cZ cG A cc nL own nm rt) (hd : decode cc pc = .ok (.iconst n, 1)) (hz : n = z) (hq : pc + 1 = q) (kk : G p l e R s m args below meth c D A nL Q kc ks ws q lv (.int (iI z) :: st)) : G p l e R s m args below meth c D A nL Q kc ks ws pc lv st := by
  subst hq
  intro H locs ls hP hD hS hl
  refine lv_iconst C.1 C.2.1 hd (congrArg Int32.ofInt hz) ?_
  exact kk H locs ls hP hD hS hl
theorem g_bipush {n z : Int} (C : Cg p s m args meth c D cI cZ cG A cc nL own nm rt) (hd : decode cc pc = .ok (.bipush n, 2)) (hz : (Int8.ofInt n).toInt32 = iI z) (hq : pc + 2 = q) (kk : G p l e R s m args below meth c D A nL Q kc ks ws q lv (.int (iI z) :: st)) : G p l e R s m args below meth c D A nL Q kc ks ws pc lv st := by
  subst hq
  intro H locs ls hP hD hS hl
  refine lv_bipush C.1 C.2.1 hd hz ?_
  exact kk H locs ls hP hD hS hl
theorem g_aload_n {k : Fin 4} {i x : Nat} (C : Cg p s m args meth c D cI cZ cG A cc nL own nm rt) (hd : decode cc pc = .ok (.aload_n k, 1)) (hi : (k : Nat) = i) (j : Nat) (hj : lv[j]? = some (i, .ref x)) (hq : pc + 1 = q) (kk : G p l e R s m args below meth c D A nL Q kc ks ws q lv (.ref x :: st)) : G p l e R s m args below meth c D A nL Q kc ks ws pc lv st := by
  subst hq
  intro H locs ls hP hD hS hl
  refine lv_aload_n C.1 C.2.1 hd hi (lv_at hl j hj) ?_
  exact kk H locs ls hP hD hS hl
theorem g_dup {va : Value} (C : Cg p s m args meth c D cI cZ cG A cc nL own nm rt) (hd : decode cc pc = .ok (.dup, 1)) (hv : va.category = 1) (hq : pc + 1 = q) (kk : G p l e R s m args below meth c D A nL Q kc ks ws q lv (va :: va :: st)) : G p l e R s m args below meth c D A nL Q kc ks ws pc lv (va :: st) := by
  subst hq
  intro H locs ls hP hD hS hl
  refine lv_dup C.1 C.2.1 hd hv ?_
  exact kk H locs ls hP hD hS hl
theorem g_obj {idx a : Nat} (C : Cg p s m args meth c D cI cZ cG A cc nL own nm rt) (hd : decode cc pc = .ok (.invokespecial idx, 3)) (hw : Cond.methodLink own idx objectInit ∈ TT) (hR : 1 ≤ R.frames ∧ (st.map fun v => v.category).sum + 12 ≤ R.locals) (hq : pc + 3 = q) (kk : G p l e R s m args below meth c D A nL Q kc ks ws q lv st) : G p l e R s m args below meth c D A nL Q kc ks ws pc lv (.ref a :: st) := by
  subst hq
  intro H locs ls hP hD hS hl
  exact W.objInit C.1 C.2.1 C.2.2.2.1 (C.2.2.2.2.1 _ hw) (C.2.2.2.2.1 _ t1_21) (C.2.2.2.2.1 _ t1_22) rfl (hl.1.trans C.2.2.1.symm) rfl hd hR.1 (by show 2 * 0 + _ + 12 ≤ _; omega) (kk H locs ls hP hD hS hl)
theorem g_newI {n : Int} {N : Nat} (C : Cg p s m args meth c D cI cZ cG A cc nL own nm rt) (hd : decode cc pc = .ok (.newarray .int, 2)) (hn : n = (N : Int)) (hN : N ≤ 1000) (hR : kc + 1 ≤ R.cells ∧ ks + N ≤ R.slots) (hq : pc + 2 = q) (kk : ∀ a : Nat, G p l e R s m args below meth c D A nL Q (kc + 1) (ks + N) (ws ++ [(a, .inl (cI, N, .inl (fun _ => 0)))]) q lv (.ref a :: st)) : G p l e R s m args below meth c D A nL Q kc ks ws pc lv (.int (iI n) :: st) := by
  subst hq
  subst hn
  intro H locs ls hP hD hS hl
  refine va_newa (atype := .int) (ty := .int) (N' := N) (a0 := (N, .inl (fun _ => 0))) C.1 C.2.1 (C.2.2.2.2.1 _ t1_36) rfl C.2.2.2.2.2.1.1.1 hP hD hS C.2.2.2.2.2.2.1 (fun cA => rfl) (fun h => ?_) ?_ ?_ hR.1 hR.2 hd (fun a cA H1 hK1 hP1 hD1 hS1 => ?_)
  · rw [iI_0, iI_lt ⟨⟨by omega, by omega⟩, by decide⟩] at h
    omega
  · rw [iI_clamp (by omega) (by omega)]
    omega
  · show N * _ ≤ _
    have : componentBytes .int ≤ 8 := by decide
    have h8 := Nat.mul_le_mul_left N this
    omega
  · have e1 : s.vm.findClass ("[" ++ (FieldType.toString .int)) = some cA := (hK1.2 3 _ rfl).2
    have e2 : s.vm.findClass ("[" ++ (FieldType.toString .int)) = some cI := (C.2.2.2.2.2.1.1.1.2 0 _ rfl).2
    cases Option.some.inj (e1.symm.trans e2)
    exact kk a H1 locs ls hP1 hD1 hS1 hl
theorem g_newZ {n : Int} {N : Nat} (C : Cg p s m args meth c D cI cZ cG A cc nL own nm rt) (hd : decode cc pc = .ok (.newarray .boolean, 2)) (hn : n = (N : Int)) (hN : N ≤ 1000) (hR : kc + 1 ≤ R.cells ∧ ks + N ≤ R.slots) (hq : pc + 2 = q) (kk : ∀ a : Nat, G p l e R s m args below meth c D A nL Q (kc + 1) (ks + N) (ws ++ [(a, .inl (cZ, N, .inl (fun _ => 0)))]) q lv (.ref a :: st)) : G p l e R s m args below meth c D A nL Q kc ks ws pc lv (.int (iI n) :: st) := by
  subst hq
  subst hn
  intro H locs ls hP hD hS hl
  refine va_newa (atype := .boolean) (ty := .boolean) (N' := N) (a0 := (N, .inl (fun _ => 0))) C.1 C.2.1 (C.2.2.2.2.1 _ t1_150) rfl C.2.2.2.2.2.1.1.1 hP hD hS C.2.2.2.2.2.2.1 (fun cA => rfl) (fun h => ?_) ?_ ?_ hR.1 hR.2 hd (fun a cA H1 hK1 hP1 hD1 hS1 => ?_)
  · rw [iI_0, iI_lt ⟨⟨by omega, by omega⟩, by decide⟩] at h
    omega
  · rw [iI_clamp (by omega) (by omega)]
    omega
  · show N * _ ≤ _
    have : componentBytes .boolean ≤ 8 := by decide
    have h8 := Nat.mul_le_mul_left N this
    omega
  · have e1 : s.vm.findClass ("[" ++ (FieldType.toString .boolean)) = some cA := (hK1.2 3 _ rfl).2
    have e2 : s.vm.findClass ("[" ++ (FieldType.toString .boolean)) = some cZ := (C.2.2.2.2.2.1.1.1.2 1 _ rfl).2
    cases Option.some.inj (e1.symm.trans e2)
    exact kk a H1 locs ls hP1 hD1 hS1 hl
theorem g_new {ci idx : Nat} {Cn : String} {T : u_T} {N : Nat} {fs : List Value} (C : Cg p s m args meth c D cI cZ cG A cc nL own nm rt) (hd : decode cc pc = .ok (.new idx, 3)) (hc : vwCl[ci]? = some (Cn, T, N)) (hin : ∀ w ∈ u_ws Cn T N, w ∈ TT) (ty : Nat → FieldType) (hty : ∀ k, k < N → parseFieldDescriptor (T k).2.2.1 = some (ty k)) (hw : Cond.classLink own idx Cn ∈ TT ∧ Cond.instantiable Cn N ∈ TT ∧ Cond.initialized Cn ∈ TT) (hfs : ∀ j, j < N → defaultValue (ty j) = vp_V fs j) (hR : kc + 1 ≤ R.cells ∧ ks + N ≤ R.slots) (hq : pc + 3 = q) (kk : ∀ a : Nat, G p l e R s m args below meth c D A nL Q (kc + 1) (ks + N) (ws ++ [(a, .inr (ci, fs))]) q lv (.ref a :: st)) : G p l e R s m args below meth c D A nL Q kc ks ws pc lv st := by
  subst hq
  intro H locs ls hP hD hS hl
  exact va_new C.1 C.2.1 C.2.2.2.2.1 hin ty hty C.2.2.2.1 (C.2.2.2.2.1 _ hw.1) (C.2.2.2.2.1 _ hw.2.1) (C.2.2.2.2.1 _ hw.2.2) C.2.2.2.2.2.1.1.1 hP hD hS C.2.2.2.2.2.2.1 hc hfs hR.1 hR.2 hd (fun a H1 hP1 hD1 hS1 => kk a H1 locs ls hP1 hD1 hS1 hl)
theorem g_putR {a v k0 ci idx j : Nat} {Cn : String} {T : u_T} {N : Nat} {fs : List Value} {ty : FieldType} (C : Cg p s m args meth c D cI cZ cG A cc nL own true rt) (hd : decode cc pc = .ok (.putfield idx, 3)) (he : ws[k0]? = some (a, .inr (ci, fs))) (F : FldOK own idx ci j Cn T N) (ty0 : Nat → FieldType) (hty : ∀ k, k < N → parseFieldDescriptor (T k).2.2.1 = some (ty0 k)) (hnm : ∀ a, a < N → ∀ b, b < N → a ≠ b → (T a).2.1 ≠ (T b).2.1) (hfin : (T j).2.2.2 = true ∧ (T j).1 = own) (hdt : parseFieldDescriptor (T j).2.2.1 = some ty) (hr : narrow ty (.ref v) = .ref v ∧ fits ty (.ref v) = true) (hl0 : j < fs.length) (hq : pc + 3 = q) (kk : G p l e R s m args below meth c D A nL Q kc ks (ws.set k0 (a, .inr (ci, fs.set j (.ref v)))) q lv st) : G p l e R s m args below meth c D A nL Q kc ks ws pc lv (.ref v :: .ref a :: st) := by
  subst hq
  intro H locs ls hP hD hS hl
  exact va_putF C.1 C.2.1 C.2.2.2.2.1 F.2.2.1 ty0 hty hnm C.2.2.2.1 C.2.2.2.2.2.1.1.1 hP hD hS k0 he F.1 j F.2.1 (C.2.2.2.2.1 _ F.2.2.2) (fun _ h9 => h9) hfin.1 (C.2.2.2.2.2.2.2.2.2 rfl) hfin.2 hdt hr.1 hr.2 hl0 hd (fun H1 locs1 hP1 hD1 hS1 => kk H1 locs1 ls hP1 hD1 hS1 hl)
theorem g_getR {a v k0 ci idx j : Nat} {Cn : String} {T : u_T} {N : Nat} {fs : List Value} (C : Cg p s m args meth c D cI cZ cG A cc nL own nm rt) (hd : decode cc pc = .ok (.getfield idx, 3)) (he : ws[k0]? = some (a, .inr (ci, fs))) (F : FldOK own idx ci j Cn T N) (hv : fs[j]? = some (.ref v)) (hq : pc + 3 = q) (kk : G p l e R s m args below meth c D A nL Q kc ks ws q lv (.ref v :: st)) : G p l e R s m args below meth c D A nL Q kc ks ws pc lv (.ref a :: st) := by
  subst hq
  intro H locs ls hP hD hS hl
  exact va_get C.1 C.2.1 C.2.2.2.2.1 F.2.2.1 C.2.2.2.1 C.2.2.2.2.2.1.1.1 hP k0 he F.1 j F.2.1 (C.2.2.2.2.1 _ F.2.2.2) (fun _ h9 => h9) hv hd (kk H locs ls hP hD hS hl)
theorem g_aald {a v k0 n : Nat} {f : Nat → Option Nat} (C : Cg p s m args meth c D cI cZ cG A cc nL own nm rt) (hd : decode cc pc = .ok (.aaload, 1)) (he : ws[k0]? = some (a, .inl (cG, n, .inr (.inr (.inr (.inr f)))))) (hn : 0 < n ∧ n < 2147483648) (hv : f 0 = some v) (hq : pc + 1 = q) (kk : G p l e R s m args below meth c D A nL Q kc ks ws q lv (.ref v :: st)) : G p l e R s m args below meth c D A nL Q kc ks ws pc lv (.int (iI 0) :: .ref a :: st) := by
  subst hq
  intro H locs ls hP hD hS hl
  have ez : (iI 0).toNatClampNeg = 0 := rfl
  exact W.aald (v := .ref v) (ty := .array .int) C.1 C.2.1 (hP k0 _ he) ((C.2.2.2.2.2.1.1.1.2 2 _ rfl).1 n (fun j => va_rf (f j))) rfl (fun h9 => by cases h9) (by show ¬ (iI 0 < 0 ∨ (arrV _ _ _).slots.size ≤ _); rw [arrV_size]; exact iI_in (a := 0) (n := n) (by decide) (by omega) hn.2) (by show (arrV _ _ _).slots[_]? = _; rw [ez, arrV_read _ _ hn.1, hv]; rfl) rfl rfl hd (kk H locs ls hP hD hS hl)
def mnaW (cI cG : ClassId) (q N K : Nat) : va_W := (q, .inl (cG, N, .inr (.inr (.inr (.inr (fun i => if i < N then some (q + 1 + i) else none)))))) :: (List.range N).map (fun i => (q + 1 + i, .inl (cI, K, .inl (fun _ => 0))))
theorem mnaW_get {cI cG : ClassId} {q N K : Nat} (k : Nat) (x : Nat × va_E) (h : (mnaW cI cG q N K)[k]? = some x) : k ≤ N ∧ x.1 = q + k ∧ (k = 0 → x.2 = .inl (cG, N, .inr (.inr (.inr (.inr (fun i => if i < N then some (q + 1 + i) else none)))))) ∧ (0 < k → x.2 = .inl (cI, K, .inl (fun _ => 0))) := by
  unfold mnaW at h
  cases k with
  | zero =>
    rw [List.getElem?_cons_zero] at h
    cases h
    exact ⟨Nat.zero_le _, rfl, fun _ => rfl, fun h => absurd h (Nat.lt_irrefl 0)⟩
  | succ k =>
    rw [List.getElem?_cons_succ, List.getElem?_map] at h
    by_cases hk : k < N
    · rw [List.getElem?_range hk] at h
      cases h
      exact ⟨hk, (by show q + 1 + k = q + (k + 1); omega), (fun h => absurd h (Nat.succ_ne_zero k)), (fun _ => rfl)⟩
    · rw [List.getElem?_eq_none (by rw [List.length_range]; omega)] at h
      cases h
theorem g_mna {n k : Int} {N K idx : Nat} (C : Cg p s m args meth c D cI cZ cG A cc nL own nm rt) (hd : decode cc pc = .ok (.multianewarray idx 2, 4)) (hn : n = (N : Int)) (hk : k = (K : Int)) (hN : N ≤ 1000 ∧ K ≤ 1000) (hw : Cond.classLink own idx "[[I" ∈ TT) (hR : kc + (1 + N) ≤ R.cells ∧ ks + (N + N * K) ≤ R.slots) (hq : pc + 4 = q) (kk : ∀ a : Nat, G p l e R s m args below meth c D A nL Q (kc + 1 + N) (ks + N + N * K) (ws ++ mnaW cI cG a N K) q lv (.ref a :: st)) : G p l e R s m args below meth c D A nL Q kc ks ws pc lv (.int (iI k) :: .int (iI n) :: st) := by
  subst hq
  subst hn
  subst hk
  intro H locs ls hP hD hS hl
  have cn : (iI (N : Int)).toNatClampNeg = N := by rw [iI_clamp (by omega) (by omega)]; omega
  have ck : (iI (K : Int)).toNatClampNeg = K := by rw [iI_clamp (by omega) (by omega)]; omega
  have pn : ∀ x : Nat, x ≤ 1000 → ¬ iI (x : Int) < 0 := fun x hx h => by
    rw [iI_0, iI_lt ⟨⟨by omega, by omega⟩, by decide⟩] at h
    omega
  have hover : (Cond.arrayOver (.array .int)).before args s = true := C.2.2.2.2.2.1.2.2.2.2.2.2.2
  intro T hT Xs
  obtain ⟨cA, comp, F, fA, fC, hm, X', step⟩ := mn_walk (n := iI (N : Int)) (k := iI (K : Int)) (st := st) (g := F0 m pc ls (.int (iI (K : Int)) :: .int (iI (N : Int)) :: st)) Xs C.1 C.2.2.2.1 (C.2.2.2.2.1 _ hw) hover (C.2.2.2.2.1 _ t1_36) rfl (by rw [C.2.1]; exact hd) rfl (pn N hN.1) (pn K hN.2) (by rw [cn]; exact hN.1) (by rw [ck]; exact hN.2) (by rw [cn]; exact hR.1) (by rw [cn, ck]; exact hR.2)
  rw [cn, ck] at X' hm
  have e1 : cG = cA := Option.some.inj ((C.2.2.2.2.2.1.1.1.2 2 _ rfl).2.symm.trans fA)
  have e2 : cI = comp := Option.some.inj ((C.2.2.2.2.2.1.1.1.2 0 _ rfl).2.symm.trans fC)
  subst e1
  subst e2
  rw [hT] at hm
  obtain ⟨f1, hold, f2, hrow0⟩ := hm
  have hrow : ∀ j : Nat, j < N → F.heap[H.size + 1 + j]? = some (vp_cell cI (K, .inl (fun _ => 0))) := fun j hj => by
    rw [hrow0 j hj, vp_cell_i]
    exact congrArg some (arrV_new _ _ _)
  have hW : va_P D vwCl (mnaW cI cG H.size N K) F.heap := fun k9 x hx => by
    obtain ⟨g1, g2, g3, g4⟩ := mnaW_get k9 x hx
    obtain ⟨x1, x2⟩ := x
    dsimp only at g2 g3 g4
    subst g2
    cases k9 with
    | zero =>
      rw [g3 rfl]
      show F.heap[H.size + 0]? = some (vp_cell _ _)
      rw [vp_cell_q]
      exact f2
    | succ k9 =>
      rw [g4 (Nat.succ_pos _)]
      show F.heap[H.size + (k9 + 1)]? = some (vp_cell _ _)
      rw [show H.size + (k9 + 1) = H.size + 1 + k9 by omega]
      exact hrow k9 g1
  have hDW : va_D A (mnaW cI cG H.size N K) := ⟨fun i j x y hx hy hxy => by
    have h1 := (mnaW_get i x hx).2.1
    have h2 := (mnaW_get j y hy).2.1
    omega, fun k9 x hx => by
    have h1 := (mnaW_get k9 x hx).2.1
    exact C.2.2.2.2.2.2.1 _ (by have := hS.1; omega)⟩
  have hP1 : va_P D vwCl (ws ++ mnaW cI cG H.size N K) F.heap := (hP.kept (fun k9 x hx => hold x.1 ((hP k9 x hx).lt))).app hW
  have hD1 : va_D A (ws ++ mnaW cI cG H.size N K) := hD.app hDW (fun i j x y hx hy hxy => by
    have h1 := (hP i x hx).lt
    have h2 := (mnaW_get j y hy).2.1
    omega)
  obtain ⟨t, a1, b1⟩ := kk H.size F.heap locs ls hP1 hD1 ⟨by rw [f1]; have := hS.1; omega, fun x h1 h2 => (hold x (Nat.lt_of_lt_of_le h1 hS.1)).trans (hS.2.1 x h1 h2), hS.2.2⟩ hl F rfl X'
  refine ⟨t, step t ?_, b1⟩
  have e : T.heap.size = H.size := by rw [hT]
  rw [e]
  exact a1
theorem g_init {a n idx maxL mc ms : Nat} {y : MethodName} {bytes : ByteArray} {rm : Room} {As : List Value} {wc wr : va_W} {W1 : (Nat → Nat) → va_W} (C : Cg p s m args meth c D cI cZ cG A cc nL own nm rt) (hd : decode cc pc = .ok (.invokespecial idx, 3)) (K : CallOK own idx y bytes maxL none n) (hy : y.name = "<init>") (Ki : Cond.instanceMethod y ∈ TT)
    (hM : ∀ sz : Nat, Met l y (wX y bytes maxL none) rm (va_Pc (.ref a :: As) (WdC D cI cZ cG wc sz)) (QC D (va_A wc sz) W1) mc ms (va_A wc sz)) (isC isR : List Nat) (hC : isC.map (fun i => ws[i]?) = wc.map some) (hr : isR.map (fun i => ws[i]?) = wr.map some) (hn1 : va_nd isC = true) (hn2 : va_nd isR = true) (hdis : ∀ i ∈ isR, i ∉ isC)
    (hR : (rm.cells = mc ∧ rm.slots = ms) ∧ (rm.frames + 1 ≤ R.frames ∧ 8 + (maxL + 11) + rm.locals ≤ R.locals) ∧ (kc + mc ≤ R.cells ∧ ks + ms ≤ R.slots)) (hn : As.length = n) {st0 : List Value} (hst : st0 = As.reverse ++ .ref a :: st) (hcat : (st.map fun v => v.category).sum ≤ 8) (hq : pc + 3 = q)
    (kk : ∀ u : Nat → Nat, G p l e R s m args below meth c D A nL Q (kc + mc) (ks + ms) (wr ++ W1 u) q lv st) : G p l e R s m args below meth c D A nL Q kc ks ws pc lv st0 := by
  subst hq
  subst hst
  intro H locs ls hP hD hS hl
  have hfm : isC.filterMap (fun i => ws[i]?) = wc := by
    have h9 := congrArg (List.filterMap id) hC
    rw [List.filterMap_map, List.filterMap_map] at h9
    simpa using h9
  have hPc := hP.sub (ws' := wc) isC hfm
  have hDc := hD.sub (ws' := wc) isC hn1 hC
  have hFc := va_free (wc := wc) hD hS C.2.2.2.2.2.2.1 isC hC
  have cb : CallB R s args own idx y bytes maxL none (wX y bytes maxL none) rm mc ms n := callB_of n C.2.2.2.2.1 (wX_good K.2.2.1) rfl hR.1.1 hR.1.2 (C.2.2.2.2.1 _ K.2.1) (C.2.2.2.2.1 _ K.1) K.2.2.2 hR.2.1
  refine va_callv (va_runI (As := As) (rest := st) ⟨C.1, C.2.1, C.2.2.1, C.2.2.2.1, C.2.2.2.2.1⟩ (hM H.size) ⟨cb, hy, C.2.2.2.2.1 _ Ki⟩ ⟨fun a U g mk q => ⟨q.1, q.2.1, q.2.2.1, q.2.2.2.1.call g mk a, q.2.2.2.2⟩, fun U hU hW => ⟨rfl, by rw [hU], by rw [hU]; exact hPc, Kc.warm hW C.2.2.2.2.2.1, hDc.weaken (fun _ _ _ _ => trivial)⟩⟩ rfl hn hl.1 rfl (lv_room hcat) hd hR.2.2) hS (fun q _ h => hFc q h) hFc (fun u t H1 locs1 ht hvm hw hB hz1 hk1 hS1 => ?_)
  obtain ⟨hP1, hD1⟩ := hB
  rw [ht] at hP1
  obtain ⟨hP2, hD2⟩ := va_join (wr := wr) (w1 := W1 u) hP hD isC isR hC hr hn2 hdis hk1 hFc hP1 hD1
  exact kk u H1 locs1 ls hP2 hD2 hS1 hl
theorem g_initN {a n idx maxL mc ms : Nat} {y : MethodName} {bytes : ByteArray} {rm : Room} {As : List Value} {wc wr : va_W} {W1 : (Nat → Nat) → va_W} (C : Cg p s m args meth c D cI cZ cG A cc nL own nm rt) (hd : decode cc pc = .ok (.invokespecial idx, 3)) {host : String} (Kn : va_Nw (.methodLinkNest own idx y host) s) (K : Cond.initialized y.cls ∈ TT ∧ Cond.code y bytes maxL none ∈ TT ∧ (y.cls ≠ "java/lang/invoke/MethodHandle" ∧ y.cls ≠ "java/lang/invoke/VarHandle" ∧ (parseMethodDescriptor y.desc).map (fun d => d.parameters.length) = some n)) (hy : y.name = "<init>") (Ki : Cond.instanceMethod y ∈ TT)
    (hM : ∀ sz : Nat, Met l y (wX y bytes maxL none) rm (va_Pc (.ref a :: As) (WdC D cI cZ cG wc sz)) (QC D (va_A wc sz) W1) mc ms (va_A wc sz)) (isC isR : List Nat) (hC : isC.map (fun i => ws[i]?) = wc.map some) (hr : isR.map (fun i => ws[i]?) = wr.map some) (hn1 : va_nd isC = true) (hn2 : va_nd isR = true) (hdis : ∀ i ∈ isR, i ∉ isC)
    (hR : (rm.cells = mc ∧ rm.slots = ms) ∧ (rm.frames + 1 ≤ R.frames ∧ 8 + (maxL + 11) + rm.locals ≤ R.locals) ∧ (kc + mc ≤ R.cells ∧ ks + ms ≤ R.slots)) (hn : As.length = n) {st0 : List Value} (hst : st0 = As.reverse ++ .ref a :: st) (hcat : (st.map fun v => v.category).sum ≤ 8) (hq : pc + 3 = q)
    (kk : ∀ u : Nat → Nat, G p l e R s m args below meth c D A nL Q (kc + mc) (ks + ms) (wr ++ W1 u) q lv st) : G p l e R s m args below meth c D A nL Q kc ks ws pc lv st0 := by
  subst hq
  subst hst
  intro H locs ls hP hD hS hl
  have hfm : isC.filterMap (fun i => ws[i]?) = wc := by
    have h9 := congrArg (List.filterMap id) hC
    rw [List.filterMap_map, List.filterMap_map] at h9
    simpa using h9
  have hPc := hP.sub (ws' := wc) isC hfm
  have hDc := hD.sub (ws' := wc) isC hn1 hC
  have hFc := va_free (wc := wc) hD hS C.2.2.2.2.2.2.1 isC hC
  have cb := va_cnB (R := R) (mc := mc) (ms := ms) (rm := rm) n C.2.2.2.2.1 (wX_good K.2.1) rfl hR.1.1 hR.1.2 Kn (C.2.2.2.2.1 _ K.1) K.2.2 hR.2.1
  refine va_callv (va_runIN (As := As) (rest := st) ⟨C.1, C.2.1, C.2.2.1, C.2.2.2.1, C.2.2.2.2.1⟩ (hM H.size) ⟨cb, hy, C.2.2.2.2.1 _ Ki⟩ ⟨fun a U g mk q => ⟨q.1, q.2.1, q.2.2.1, q.2.2.2.1.call g mk a, q.2.2.2.2⟩, fun U hU hW => ⟨rfl, by rw [hU], by rw [hU]; exact hPc, Kc.warm hW C.2.2.2.2.2.1, hDc.weaken (fun _ _ _ _ => trivial)⟩⟩ rfl hn hl.1 rfl (lv_room hcat) hd hR.2.2) hS (fun q _ h => hFc q h) hFc (fun u t H1 locs1 ht hvm hw hB hz1 hk1 hS1 => ?_)
  obtain ⟨hP1, hD1⟩ := hB
  rw [ht] at hP1
  obtain ⟨hP2, hD2⟩ := va_join (wr := wr) (w1 := W1 u) hP hD isC isR hC hr hn2 hdis hk1 hFc hP1 hD1
  exact kk u H1 locs1 ls hP2 hD2 hS1 hl
theorem g_fill {a n idx maxL : Nat} {y : MethodName} {bytes : ByteArray} {rm : Room} {As : List Value} {wc wr : va_W} {W1 : (Nat → Nat) → va_W} (C : Cg p s m args meth c D cI cZ cG A cc nL own nm rt) (hd : decode cc pc = .ok (.invokestatic idx, 3)) (K : CallOK own idx y bytes maxL none n) (Ki : Cond.static y ∈ TT)
    (hM : ∀ sz : Nat, Met l y (wX y bytes maxL none) rm (va_Pc As (WdC D cI cZ cG wc sz)) (QC D (va_A wc sz) W1) 0 0 (va_A wc sz)) (isC isR : List Nat) (hC : isC.map (fun i => ws[i]?) = wc.map some) (hr : isR.map (fun i => ws[i]?) = wr.map some) (hn1 : va_nd isC = true) (hn2 : va_nd isR = true) (hdis : ∀ i ∈ isR, i ∉ isC)
    (hR : (rm.cells = 0 ∧ rm.slots = 0) ∧ (rm.frames + 1 ≤ R.frames ∧ 8 + (maxL + 11) + rm.locals ≤ R.locals) ∧ (kc ≤ R.cells ∧ ks ≤ R.slots)) (hn : As.length = n) {st0 : List Value} (hst : st0 = As.reverse ++ st) (hcat : (st.map fun v => v.category).sum ≤ 8) (hq : pc + 3 = q)
    (kk : ∀ u : Nat → Nat, G p l e R s m args below meth c D A nL Q kc ks (wr ++ W1 u) q lv st) : G p l e R s m args below meth c D A nL Q kc ks ws pc lv st0 := by
  subst hq
  subst hst
  intro H locs ls hP hD hS hl
  have hfm : isC.filterMap (fun i => ws[i]?) = wc := by
    have h9 := congrArg (List.filterMap id) hC
    rw [List.filterMap_map, List.filterMap_map] at h9
    simpa using h9
  have hPc := hP.sub (ws' := wc) isC hfm
  have hDc := hD.sub (ws' := wc) isC hn1 hC
  have hFc := va_free (wc := wc) hD hS C.2.2.2.2.2.2.1 isC hC
  have cb : CallB R s args own idx y bytes maxL none (wX y bytes maxL none) rm 0 0 n := callB_of n C.2.2.2.2.1 (wX_good K.2.2.1) rfl hR.1.1 hR.1.2 (C.2.2.2.2.1 _ K.2.1) (C.2.2.2.2.1 _ K.1) K.2.2.2 hR.2.1
  refine va_callv (va_runS (As := As) (rest := st) ⟨C.1, C.2.1, C.2.2.1, C.2.2.2.1, C.2.2.2.2.1⟩ (hM H.size) ⟨cb, C.2.2.2.2.1 _ Ki⟩ ⟨fun a U g mk q => ⟨q.1, q.2.1, q.2.2.1, q.2.2.2.1.call g mk a, q.2.2.2.2⟩, fun U hU hW => ⟨rfl, by rw [hU], by rw [hU]; exact hPc, Kc.warm hW C.2.2.2.2.2.1, hDc.weaken (fun _ _ _ _ => trivial)⟩⟩ rfl hn hl.1 rfl (lv_room hcat) hd hR.2.2) hS (fun q _ h => hFc q h) hFc (fun u t H1 locs1 ht hvm hw hB hz1 hk1 hS1 => ?_)
  obtain ⟨hP1, hD1⟩ := hB
  rw [ht] at hP1
  obtain ⟨hP2, hD2⟩ := va_join (wr := wr) (w1 := W1 u) hP hD isC isR hC hr hn2 hdis hk1 hFc hP1 hD1
  exact kk u H1 locs1 ls hP2 hD2 hS1 hl
theorem g_ret {W1 : (Nat → Nat) → va_W} (C : Cg p s m args meth c D cI cZ cG A cc nL own nm none) (hd : decode cc pc = .ok (.return_, 1)) (u : Nat → Nat) (is : List Nat) (hn : va_nd is = true) (hs : is.map (fun i => ws[i]?) = (W1 u).map some) : G p l e R s m args below meth c D A nL (MQ below (QC D A W1) args s kc ks A) kc ks ws pc lv [] := by
  intro H locs ls hP hD hS hl
  have hfm : is.filterMap (fun i => ws[i]?) = W1 u := by
    have h9 := congrArg (List.filterMap id) hs
    rw [List.filterMap_map, List.filterMap_map] at h9
    simpa using h9
  refine W.vret C.1 C.2.1 C.2.2.2.2.2.2.2.1 (fun t ht hW => ?_) hS.2.2 hd C.2.2.2.2.2.2.2.2.1
  unfold QC va_Qv
  exact ⟨⟨u, rfl, trivial, by rw [ht]; exact hP.sub is hfm, hD.sub is hn hs⟩, hS.F ht⟩
end GR
