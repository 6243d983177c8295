/-! ===== the world: the 65 cells of the two objects, as a grid of Ints ===== -/
abbrev GS : Type := Nat → Nat → Int
/-- an array of ints (false) or booleans (true) of a length; an array of rows: how many, the first one's cell; an object: its class, its fields (a cell, an int, a long) -/
abbrev ce : Type := (Bool × Nat) ⊕ (Nat × Nat) ⊕ (Nat × List (Option (Option Nat)))
def cA (n : Nat) : ce := .inl (false, n)
def cB (n : Nat) : ce := .inl (true, n)
def cR (n b : Nat) : ce := .inr (.inl (n, b))
def cO (ci : Nat) (fl : List (Option (Option Nat))) : ce := .inr (.inr (ci, fl))
def f_ (c : Nat) : Option (Option Nat) := some (some c)
def fi : Option (Option Nat) := some none
def fl_ : Option (Option Nat) := none
def layL : List ce := [
  cO 9 [f_ 1, f_ 3, f_ 6, f_ 8, f_ 10, f_ 20, f_ 21, f_ 23, f_ 39, f_ 44, f_ 48, f_ 49, f_ 50, fl_],
  cO 3 [f_ 2, fi], cA 64,
  cO 1 [f_ 4, f_ 5, fi], cA 6, cA 48,
  cO 2 [f_ 3, f_ 7], cA 5,
  cO 2 [f_ 3, f_ 9], cA 5,
  cO 6 [f_ 3, f_ 11, f_ 19, fi, fi], cR 7 12, cA 28, cA 28, cA 28, cA 28, cA 28, cA 28, cA 28, cA 6,
  cO 7 [f_ 3, f_ 8, f_ 10],
  cO 8 [f_ 22, fi], cA 5,
  cO 0 [f_ 24, fi], cR 14 25, cA 5, cA 5, cA 5, cA 5, cA 5, cA 5, cA 5, cA 5, cA 5, cA 5, cA 5, cA 5, cA 5, cA 5,
  cO 4 [f_ 40, f_ 43], cR 2 41, cA 5, cA 5, cB 2,
  cO 5 [f_ 45, f_ 46, f_ 47, fi], cA 6, cA 6, cB 6,
  cA 4, cA 4, cA 4,
  cO 10 [fi, f_ 52, f_ 53, f_ 54, f_ 55, f_ 56, fi, f_ 57, fi, fi, f_ 58, fi, fi, f_ 59, fi, f_ 60, f_ 61, f_ 62, fl_, f_ 63, f_ 64],
  cA 6, cA 48, cA 10, cA 6, cA 48, cA 64, cA 5, cA 70, cA 6, cA 6, cA 6, cB 2, cA 10]
def lay (k : Nat) : ce := layL.getD k (cA 0)
def fv (ad : Nat → Nat) (z : Int) (x : Option (Option Nat)) : Value := match x with
  | some (some c) => .ref (ad c)
  | some none => .int (iI z)
  | none => .long (lI z)
def fvs (ad : Nat → Nat) (g : Nat → Int) : Nat → List (Option (Option Nat)) → List Value
  | _, [] => []
  | j, x :: r => fv ad (g j) x :: fvs ad g (j + 1) r
theorem fvs_get (ad : Nat → Nat) (g : Nat → Int) : ∀ (fl : List (Option (Option Nat))) (j i : Nat), (fvs ad g j fl)[i]? = (fl[i]?).map (fun x => fv ad (g (j + i)) x)
  | [], j, i => by simp [fvs]
  | x :: r, j, 0 => by simp [fvs]
  | x :: r, j, i + 1 => by
    simp only [fvs, List.getElem?_cons_succ]
    rw [fvs_get ad g r (j + 1) i, show j + 1 + i = j + (i + 1) by omega]
def up1 (f : Nat → Int) (j : Nat) (v : Int) : Nat → Int := fun b => if b = j then v else f b
def upR (σ : GS) (k : Nat) (f : Nat → Int) : GS := fun a => if a = k then f else σ a
def up2 (σ : GS) (k j : Nat) (v : Int) : GS := upR σ k (up1 (σ k) j v)
/-- n places of f laid over g from its first place on -/
def cp (f g : Nat → Int) (n : Nat) : Nat → Int := fun i => if i < n then f i else g i
theorem fvs_set {ad : Nat → Nat} {g : Nat → Int} {fl : List (Option (Option Nat))} {i : Nat} {x : Option (Option Nat)} (h : fl[i]? = some x) (v : Int) (w : Value) (hw : fv ad v x = w) (hx : ∀ c, x ≠ some (some c)) : (fvs ad g 0 fl).set i w = fvs ad (up1 g i v) 0 fl := by
  apply List.ext_getElem?
  intro j
  rw [List.getElem?_set, fvs_get, fvs_get]
  by_cases e : i = j
  · subst e
    have hl : i < (fvs ad g 0 fl).length := by
      rcases Nat.lt_or_ge i (fvs ad g 0 fl).length with q | q
      · exact q
      · have h9 := fvs_get ad g fl 0 i
        rw [List.getElem?_eq_none q, h] at h9
        simp at h9
    rw [if_pos rfl, if_pos hl, h]
    simp [up1, hw]
  · rw [if_neg e]
    cases hj : fl[j]? with
    | none => rfl
    | some y => simp [up1, show ¬ j = i from fun q => e q.symm]
section WL
variable (ad : Nat → Nat) (cI cZ cG : ClassId)
def xE (σ : GS) (k : Nat) : va_E := match lay k with
  | .inl (b, n) => .inl ((if b = true then cZ else cI), n, .inl (fun i => iI (σ k i)))
  | .inr (.inl (n, base)) => .inl (cG, n, .inr (.inr (.inr (.inr (fun i => if i < n then some (ad (base + i)) else none)))))
  | .inr (.inr (ci, fl)) => .inr (ci, fvs ad (σ k) 0 fl)
def wl (σ : GS) : va_W := (List.range 65).map (fun k => (ad k, xE ad cI cZ cG σ k))
end WL
section WM
variable {ad : Nat → Nat} {cI cZ cG : ClassId}
theorem wl_get {σ : GS} {k : Nat} (hk : k < 65) {E : va_E} (hE : xE ad cI cZ cG σ k = E) : (wl ad cI cZ cG σ)[k]? = some (ad k, E) := by
  simp [wl, hk, hE]
theorem wl_set {σ σ' : GS} {k : Nat} {E : va_E} (hk : k < 65) (hE : xE ad cI cZ cG σ' k = E) (ho : ∀ j, j ≠ k → xE ad cI cZ cG σ' j = xE ad cI cZ cG σ j) : (wl ad cI cZ cG σ).set k (ad k, E) = wl ad cI cZ cG σ' := by
  apply List.ext_getElem?
  intro j
  rw [List.getElem?_set]
  by_cases e : k = j
  · subst e
    rw [if_pos rfl, if_pos (by simp [wl, hk]), wl_get hk hE]
  · rw [if_neg e]
    simp only [wl, List.getElem?_map]
    by_cases hj : j < 65
    · simp [hj, ho j (fun q => e q.symm)]
    · simp [hj]
theorem xE_other {σ : GS} {k : Nat} {f : Nat → Int} (j : Nat) (h : j ≠ k) : xE ad cI cZ cG (upR σ k f) j = xE ad cI cZ cG σ j := by
  unfold xE upR
  rw [if_neg h]
def Aw (ad : Nat → Nat) : Nat → Prop := fun q => ∃ k, k < 65 ∧ q = ad k
def Ij (ad : Nat → Nat) : Prop := ∀ i j, i < 65 → j < 65 → ad i = ad j → i = j
theorem wl_D {A : Nat → Prop} (h : Ij ad) (hA : ∀ k, k < 65 → A (ad k)) (σ : GS) : va_D A (wl ad cI cZ cG σ) := by
  have key : ∀ (i : Nat) (x : Nat × va_E), (wl ad cI cZ cG σ)[i]? = some x → i < 65 ∧ x.1 = ad i := by
    intro i x hx
    have hi : i < 65 := by
      have := (List.getElem?_eq_some_iff.mp hx).1
      simpa [wl] using this
    rw [wl_get hi rfl] at hx
    cases hx
    exact ⟨hi, rfl⟩
  refine ⟨fun i j x y hx hy hxy => ?_, fun k x hx => ?_⟩
  · obtain ⟨h1, h2⟩ := key i x hx
    obtain ⟨h3, h4⟩ := key j y hy
    exact h i j h1 h3 (by rw [← h2, ← h4]; exact hxy)
  · obtain ⟨h1, h2⟩ := key k x hx
    rw [h2]
    exact hA k h1
end WM
def nw1 : Cond := .methodLinkNest RX3 23 yX9_isLetter RX9
def nw2 : Cond := .methodLinkNest RX6 69 yX9_isPlace RX9
abbrev tys3 (cI cZ cG : ClassId) : List (ClassId × FieldType) := [(cI, .int), (cZ, .boolean), (cG, .array .int)]
def Kw (D : va_G) (cI cZ cG : ClassId) (U : State) : Prop := va_K D vwCl (tys3 cI cZ cG) U ∧ va_Nw nw1 U ∧ va_Nw nw2 U
theorem Kw.warm {D : va_G} {cI cZ cG : ClassId} {s U : State} (hW : s.WarmedH U.vm) (h : Kw D cI cZ cG s) : Kw D cI cZ cG U := ⟨va_K.moved hW.alike h.1, va_Nw.warmM hW h.2.1, va_Nw.warmM hW h.2.2⟩
theorem Kw.call {D : va_G} {cI cZ cG : ClassId} {U : State} (g : JFrame) (mk : MethodId) (a : Array Value) (h : Kw D cI cZ cG U) : Kw D cI cZ cG (U.calling g mk a) :=
  ⟨va_K.moved (u := U) (U := U.calling g mk a) (Vm.Alike.refl U.vm) h.1, va_Nw.same rfl (u := U) (U := U.calling g mk a) rfl h.2.1, va_Nw.same rfl (u := U) (U := U.calling g mk a) rfl h.2.2⟩
/-- the world at a method's start -/
def Wd (ad : Nat → Nat) (D : va_G) (cI cZ cG : ClassId) (σ : GS) (U : State) : Prop := va_P D vwCl (wl ad cI cZ cG σ) U.heap ∧ Kw D cI cZ cG U
/-- the heap behind it -/
def Wh (ad : Nat → Nat) (D : va_G) (cI cZ cG : ClassId) (σ : GS) (U : State) : Prop := va_P D vwCl (wl ad cI cZ cG σ) U.heap
def wX (y : MethodName) (cc : ByteArray) (maxL : Nat) (ret : Option FieldType) : List Cond := Cond.code y cc maxL ret :: TT
def QI (ad : Nat → Nat) (D : va_G) (cI cZ cG : ClassId) (P : Int → GS → Prop) := va_Qi (fun (r : Int32) (u : GS) => ∃ z : Int, r = iI z ∧ P z u) (Wh ad D cI cZ cG) (Aw ad)
def QL (ad : Nat → Nat) (D : va_G) (cI cZ cG : ClassId) (P : Int → GS → Prop) := va_Ql (fun (r : Int64) (u : GS) => ∃ z : Int, r = lI z ∧ P z u) (Wh ad D cI cZ cG) (Aw ad)
def QV (ad : Nat → Nat) (D : va_G) (cI cZ cG : ClassId) (P : GS → Prop) := va_Qv P (Wh ad D cI cZ cG) (Aw ad)
/-- what stays through a method's walk -/
def Cx (p : Program) (s : State) (m : MethodId) (args : Array Value) (meth : Method) (c : Code) (ad : Nat → Nat) (D : va_G) (cI cZ cG : ClassId) (A : Nat → Prop) (cc : ByteArray) (nL : Nat) (own : String) (ret : Option FieldType) : Prop :=
  p.tables.exec = Jvm.exec ∧ c.code = cc ∧ c.maxLocals = nL ∧ s.vm.findClass own = some m.cls ∧ (∀ w ∈ TT, w.before args s = true) ∧ Kw D cI cZ cG s ∧ Ij ad ∧ (∀ k, k < 65 → A (ad k)) ∧ meth.sig.returnType = ret ∧ meth.locks = false
def V (p : Program) (l : Launch) (e : Env) (R : Room) (s : State) (m : MethodId) (args : Array Value) (below : List Frame) (meth : Method) (c : Code) (ad : Nat → Nat) (D : va_G) (cI cZ cG : ClassId) (A : Nat → Prop) (nL kc ks : Nat) (Q : State → Prop) (σ : GS) (pc : Nat) (lv : List (Nat × Value)) (st : List Value) : Prop :=
  ∀ (H : Heap) (locs : List Loc) (ls : Array Slot), va_P D vwCl (wl ad cI cZ cG σ) H → va_S A s.heap H locs → lv_has ls nL lv → W p l e R s m args below meth c H locs kc ks Q (F0 m pc ls st)
theorem met_V {l : Launch} {ad : Nat → Nat} {D : va_G} {cI cZ cG : ClassId} {y : MethodName} {cc : ByteArray} {maxL : Nat} {ret : Option FieldType} {rm : Room} {av : List Value} {σ : GS} {Qc : Array Value → State → Outcome → State → Prop} {own : String} (hI : Ij ad) (hy : plainFor y = true) (ho : y.cls = own) (hlen : (lg_sl av).length ≤ maxL)
    (body : ∀ (p : Program) (e : Env) (s : State) (m : MethodId) (args : Array Value) (below : List Frame) (meth : Method) (c : Code), Cx p s m args meth c ad D cI cZ cG (Aw ad) cc maxL own ret → V p l e rm s m args below meth c ad D cI cZ cG (Aw ad) maxL 0 0 (MQ below Qc args s 0 0 (Aw ad)) σ 0 (lv_args 0 av) []) :
    Met l y (wX y cc maxL ret) rm (va_Pc av (Wd ad D cI cZ cG σ)) Qc 0 0 (Aw ad) := by
  refine va_MetF (cc := cc) (maxL := maxL) (ret := ret) hy rfl ?_
  intro p e s m args below meth c s₁ B hml hv
  obtain ⟨rfl, hP, hK⟩ := hv
  have hts := atoms_spec (ws := wX y cc maxL ret) B.pre
  have hown : s.vm.findClass own = some m.cls := by rw [← ho]; exact findClass_of_methodNamed B.named
  have hl := lv_entry av (n := maxL) hlen
  rw [lg_entry_eq]
  exact body p e s m av.toArray below meth c ⟨B.exec, B.bytes, hml, hown, fun w hw => hts w (List.mem_cons_of_mem _ hw), hK, hI, fun k hk => ⟨k, hk, rfl⟩, B.returns, B.notSynchronized⟩ s.heap [] _ hP va_S.rf hl
/-- a call's links -/
def CallOK (own : String) (idx : Nat) (y : MethodName) (bytes : ByteArray) (maxL : Nat) (ret : Option FieldType) (n : Nat) : Prop :=
  Cond.methodLink own idx y ∈ TT ∧ Cond.initialized y.cls ∈ TT ∧ Cond.code y bytes maxL ret ∈ TT ∧ (y.cls ≠ "java/lang/invoke/MethodHandle" ∧ y.cls ≠ "java/lang/invoke/VarHandle" ∧ (parseMethodDescriptor y.desc).map (fun d => d.parameters.length) = some n)
def VirtOK (y : MethodName) : Prop := Cond.instanceMethod y ∈ TT ∧ Cond.selects y.cls y y ∈ TT
/-- a field's links: its class's place, its place in it -/
def FldOK (own : String) (idx ci j : Nat) (C : String) (T : u_T) (N : Nat) : Prop :=
  vwCl[ci]? = some (C, T, N) ∧ j < N ∧ (∀ w ∈ u_ws C T N, w ∈ TT) ∧ Cond.fieldLink own idx (T j).1 (T j).2.1 (T j).2.2.1 ∈ TT
