section
section MN
/-- the words that the table has of int[][]: its class, over the class of int[] -/
theorem mn_over {args : Array Value} {s : State} (h : (Cond.arrayOver (.array .int)).before args s = true) : ∃ (cI cG : ClassId) (kG : Class), s.vm.findClass "[I" = some cI ∧ s.vm.findClass "[[I" = some cG ∧ s.vm.classes[cG]? = some kG ∧ kG.kind = .array cI (.array .int) := by
  have h1 : Cond.value args s none s [] (Cond.arrayOver (.array .int)) = some true := eq_of_beq h
  simp only [Cond.value] at h1
  obtain ⟨cI, hI, h2⟩ := Option.bind_eq_some_iff.mp h1
  obtain ⟨cG, hG, h3⟩ := Option.bind_eq_some_iff.mp h2
  obtain ⟨kG, hk, h4⟩ := Option.map_eq_some_iff.mp h3
  obtain ⟨hlt, hp, -⟩ := Array.findIdx?_eq_some_iff_getElem.mp hG
  rw [(Array.getElem?_eq_some_iff.mp hk).2] at hp
  generalize hK : kG.kind = K at hp h4
  cases K with
  | array x ty =>
    have e1 : x = cI := eq_of_beq hp
    have h5 := (Bool.and_eq_true_iff.mp h4)
    have e2 : ty = .array .int := of_decide_eq_true h5.1
    exact ⟨cI, cG, kG, hI, of_decide_eq_true h5.2, hk, by rw [hK, e1, e2]⟩
  | _ => cases h4
def mn_row (cI : ClassId) (K : Nat) : Cell := { cls := cI, slots := Array.replicate K (.int 0), vm := .none }
def mn_top (cG : ClassId) (N h i : Nat) : Cell := arrV cG N (fun j => va_rf (if j < i then some (h + 1 + j) else none))
theorem mn_top0 (cG : ClassId) (N h : Nat) : ({ cls := cG, slots := Array.replicate N .null, vm := .none } : Cell) = mn_top cG N h 0 := by
  rw [arrV_new]
  exact congrArg (arrV cG N) (funext fun j => by rw [if_neg (Nat.not_lt_zero j)]; rfl)
theorem mn_topS (cG : ClassId) (N h i : Nat) : (mn_top cG N h i).setSlot i (.ref (h + 1 + i)) = mn_top cG N h (i + 1) := by
  unfold mn_top
  rw [arrV_store]
  refine congrArg (arrV cG N) (funext fun j => ?_)
  unfold updV
  rcases Nat.lt_trichotomy j i with hj | hj | hj
  · rw [if_neg (by omega), if_pos (by omega)]
    dsimp only
    rw [if_pos hj]
  · rw [if_pos hj, if_pos (by omega), hj]
    rfl
  · rw [if_neg (by omega)]
    dsimp only
    rw [if_neg (by omega), if_neg (by omega)]
/-- a heap H0 behind i rows of an int[N][K] -/
def mn_H (H0 : Heap) (cG cI : ClassId) (N K i : Nat) (H : Heap) : Prop :=
  H.size = H0.size + 1 + i ∧ (∀ x : Nat, x < H0.size → H[x]? = H0[x]?) ∧ H[H0.size]? = some (mn_top cG N H0.size i) ∧ ∀ j : Nat, j < i → H[H0.size + 1 + j]? = some (mn_row cI K)
theorem mn_H0 (H0 : Heap) (cG cI : ClassId) (N K : Nat) : mn_H H0 cG cI N K 0 (H0.push (mn_top cG N H0.size 0)) :=
  ⟨Array.size_push _, fun x hx => by rw [Array.getElem?_push, if_neg (by omega)], by rw [Array.getElem?_push, if_pos rfl], fun j hj => absurd hj (Nat.not_lt_zero j)⟩
theorem mn_HS {H0 H : Heap} {cG cI : ClassId} {N K i : Nat} (h : mn_H H0 cG cI N K i H) : mn_H H0 cG cI N K (i + 1) ((H.push (mn_row cI K)).setIfInBounds H0.size (mn_top cG N H0.size (i + 1))) := by
  obtain ⟨h1, h2, h3, h4⟩ := h
  refine ⟨?_, fun x hx => ?_, ?_, fun j hj => ?_⟩
  · rw [Array.size_setIfInBounds, Array.size_push, h1]
    omega
  · rw [Array.getElem?_setIfInBounds, if_neg (by omega), Array.getElem?_push, if_neg (by omega)]
    exact h2 x hx
  · rw [Array.getElem?_setIfInBounds, if_pos rfl, if_pos (by rw [Array.size_push]; omega)]
  · rw [Array.getElem?_setIfInBounds, if_neg (by omega), Array.getElem?_push]
    by_cases e : j = i
    · rw [if_pos (by omega)]
    · rw [if_neg (by omega)]
      exact h4 j (by omega)
/-- one row: an int[K] -/
theorem mn_make1 {Q : Addr → Pre} {E : CtlPost} {e : Env} {d : Bool} {acts : List Action} {S : State} {cI cc : ClassId} {kI : Class} {k : Int32} (hk : S.vm.classes[cI]? = some kI) (hkind : kI.kind = .array cc .int) (h0 : ¬ k < 0) (h1 : ¬ k.toNatClampNeg > e.platform.arrayLengthLimit) (h2 : ¬ k.toNatClampNeg * componentBytes .int > e.platform.maxHeapBytes) (h3 : S.heap.size < e.platform.maxCells) (h4 : S.slotsUsed + k.toNatClampNeg ≤ e.platform.maxSlots) (hq : ∀ acts', Q S.heap.size d acts' (S.pushCell (mn_row cI k.toNatClampNeg))) : wp (multianewarray.make cI [k]) Q E e d acts S := by
  rw [multianewarray.make]
  simp only [if_neg h0, wp_bind', wp_pure', Jvm.W.theClass]
  refine ⟨kI, hk, ?_⟩
  rw [hkind]
  exact Jvm.W.newArray_of hk hkind h1 h2 h3 h4 rfl hq
variable {p : Program} {l : Launch} {e : Env} {R : Room} {s : State} {m : MethodId} {args : Array Value} {below : List Frame} {meth : Method} {c : Code} {locs : List Loc} {cells slots : Nat}
/-- the rows from the i-th on: there is one state behind them, and it is reached -/
theorem mn_loop {H0 : Heap} {cG cI cc : ClassId} {kG kI : Class} {N : Nat} {k : Int32} {f : Nat → PUnit → Sem (ForInStep PUnit)} (hf : ∀ (i : Nat) (u : PUnit), f i u = (do let a ← multianewarray.make cI [k]; Jvm.writeLoc H0.size i (.ref a); Pure.pure (ForInStep.yield PUnit.unit))) (hs : s.heap.size ≤ H0.size) (h0 : ¬ k < 0) (h1 : ¬ k.toNatClampNeg > e.platform.arrayLengthLimit) (h2 : ¬ k.toNatClampNeg * componentBytes .int > e.platform.maxHeapBytes) (h3 : cells + (1 + N) ≤ R.cells) (h4 : slots + (N + N * k.toNatClampNeg) ≤ R.slots) (hkG : kG.kind = .array cI (.array .int)) (hkI : kI.kind = .array cc .int) :
    ∀ (n i : Nat) (S : State), i + n = N → S.vm.classes[cG]? = some kG → S.vm.classes[cI]? = some kI → mn_H H0 cG cI N k.toNatClampNeg i S.heap → Stand p l e R s m args below meth c S locs (cells + 1 + i) (slots + N + i * k.toNatClampNeg) →
    ∃ F : State, mn_H H0 cG cI N k.toNatClampNeg N F.heap ∧ Stand p l e R s m args below meth c F locs (cells + 1 + N) (slots + N + N * k.toNatClampNeg) ∧ ∀ (Q : PUnit → Pre) (E : CtlPost) (d : Bool) (acts : List Action) (g : JFrame), (∀ d' acts', Q PUnit.unit d' acts' (F.setTop g)) → wp (forIn (List.range' i n) PUnit.unit f) Q E e d acts (S.setTop g) := by
  intro n
  induction n with
  | zero =>
    intro i S hi cg ci hH X
    have e : i = N := hi
    subst e
    exact ⟨S, hH, X, fun Q E d acts g hq => hq d acts⟩
  | succ n ih =>
    intro i S hi cg ci hH X
    have hK : i * k.toNatClampNeg + k.toNatClampNeg ≤ N * k.toNatClampNeg := by
      rw [← Nat.succ_mul]
      exact Nat.mul_le_mul_right _ (by omega)
    have hR := X.roomAbove (a := 1) (b := k.toNatClampNeg) (by omega) (by omega)
    have hz := hH.1
    have hp : (S.pushCell (mn_row cI k.toNatClampNeg)).heap[H0.size]? = some (mn_top cG N H0.size i) := by
      show (S.heap.push _)[H0.size]? = _
      rw [Array.getElem?_push, if_neg (by omega)]
      exact hH.2.2.1
    have X1 := ((X.pushed (mn_row cI k.toNatClampNeg)).stored hp i (.ref (H0.size + 1 + i))).dropFresh (fun x hx => by rw [List.mem_singleton.mp hx]; exact hs)
    have ez : (mn_row cI k.toNatClampNeg).slots.size = k.toNatClampNeg := Array.size_replicate
    rw [mn_topS, ez, Nat.add_assoc _ i 1, Nat.add_assoc _ (i * _) _, ← Nat.succ_mul] at X1
    obtain ⟨F, f1, f2, f3⟩ := ih (i + 1) ((S.pushCell (mn_row cI k.toNatClampNeg)).setCell H0.size (mn_top cG N H0.size (i + 1))) (by omega) cg ci (mn_HS hH) X1
    refine ⟨F, f1, f2, fun Q E d acts g hq => ?_⟩
    rw [List.range'_succ, List.forIn_cons, hf]
    simp only [wp_bind']
    refine mn_make1 (S := S.setTop g) ci hkI h0 h1 h2 hR.1 hR.2 (fun acts' => ?_)
    simp only [wp_bind', Jvm.W.writeLoc, wp_pure']
    refine ⟨mn_top cG N H0.size i, hp, (fun h => by cases h), (by rw [show (mn_top cG N H0.size i).slots.size = N from arrV_size _ _ _]; omega), ?_, ?_⟩
    · show State.fitsSlot _ cG VmData.none i _ = true
      simp only [State.fitsSlot, State.slotType?]
      rw [show ((S.setTop g).pushCell (mn_row cI k.toNatClampNeg)).vm.classes[cG]? = some kG from cg]
      simp [hkG, fits]
    · rw [show (S.setTop g).heap.size = H0.size + 1 + i from hz, mn_topS]
      exact f3 Q E _ _ g hq
/-- the whole int[n][k], from its first cell on -/
theorem mn_make2 {T : State} {cG cI cc : ClassId} {kG kI : Class} {n k : Int32} (X : Stand p l e R s m args below meth c T locs cells slots) (hn : ¬ n < 0) (h0 : ¬ k < 0) (hn1 : ¬ n.toNatClampNeg > e.platform.arrayLengthLimit) (hn2 : ¬ n.toNatClampNeg * componentBytes (.array .int) > e.platform.maxHeapBytes) (h1 : ¬ k.toNatClampNeg > e.platform.arrayLengthLimit) (h2 : ¬ k.toNatClampNeg * componentBytes .int > e.platform.maxHeapBytes) (h3 : cells + (1 + n.toNatClampNeg) ≤ R.cells) (h4 : slots + (n.toNatClampNeg + n.toNatClampNeg * k.toNatClampNeg) ≤ R.slots) (cg : T.vm.classes[cG]? = some kG) (ci : T.vm.classes[cI]? = some kI) (hkG : kG.kind = .array cI (.array .int)) (hkI : kI.kind = .array cc .int) :
    ∃ F : State, mn_H T.heap cG cI n.toNatClampNeg k.toNatClampNeg n.toNatClampNeg F.heap ∧ Stand p l e R s m args below meth c F locs (cells + 1 + n.toNatClampNeg) (slots + n.toNatClampNeg + n.toNatClampNeg * k.toNatClampNeg) ∧ ∀ (Q : Addr → Pre) (E : CtlPost) (d : Bool) (acts : List Action) (g : JFrame), (∀ d' acts', Q T.heap.size d' acts' (F.setTop g)) → wp (multianewarray.make cG [n, k]) Q E e d acts (T.setTop g) := by
  have hR := X.roomAbove (a := 1) (b := n.toNatClampNeg) (by omega) (by omega)
  have X1 := X.pushed (mn_top cG n.toNatClampNeg T.heap.size 0)
  rw [show (mn_top cG n.toNatClampNeg T.heap.size 0).slots.size = n.toNatClampNeg from arrV_size _ _ _] at X1
  obtain ⟨F, f1, f2, f3⟩ := mn_loop (H0 := T.heap) (N := n.toNatClampNeg) (k := k) (fun i u => rfl) X.heapGrown h0 h1 h2 h3 h4 hkG hkI n.toNatClampNeg 0 (T.pushCell (mn_top cG n.toNatClampNeg T.heap.size 0)) (Nat.zero_add _) cg ci (mn_H0 _ _ _ _ _) (by rw [Nat.zero_mul]; exact X1)
  refine ⟨F, f1, f2, fun Q E d acts g hq => ?_⟩
  rw [multianewarray.make]
  simp only [if_neg hn, wp_bind', wp_pure', Jvm.W.theClass]
  refine ⟨kG, cg, ?_⟩
  rw [hkG]
  simp only [wp_bind']
  refine Jvm.W.newArray_of cg hkG hn1 hn2 hR.1 hR.2 rfl (fun acts' => ?_)
  rw [show ({ cls := cG, slots := Array.replicate n.toNatClampNeg .null } : Cell) = mn_top cG n.toNatClampNeg T.heap.size 0 from mn_top0 _ _ _]
  have hfi : List.find? (fun x : Int32 => decide (x < 0)) [k] = none := by simp [h0]
  rw [hfi]
  dsimp only
  rw [ite_self]
  simp only [wp_bind', wp_pure', Std.Legacy.Range.forIn_eq_forIn_range']
  have hsz : (Std.Legacy.Range.mk 0 n.toNatClampNeg 1 (by decide)).size = n.toNatClampNeg := by simp [Std.Legacy.Range.size]
  rw [hsz]
  exact f3 _ E d acts' g (fun d' acts'' => hq d' acts'')
/-- multianewarray of int[][] where the walk stands: the state F behind it, and what its heap holds -/
theorem mn_walk {T : State} (X : Stand p l e R s m args below meth c T locs cells slots) (hx : p.tables.exec = Jvm.exec) {own : String} {idx : Nat} (hown : s.vm.findClass own = some m.cls) (hcl : (Cond.classLink own idx "[[I").before args s = true) (hov : (Cond.arrayOver (.array .int)).before args s = true) (har : (Cond.arrayClass .int).before args s = true) {g : JFrame} (hg : g.method = m) (hd : decode c.code g.pc = .ok (.multianewarray idx 2, 4)) {n k : Int32} {st : List Value} (hst : g.stack = .int k :: .int n :: st) (hn : ¬ n < 0) (hk : ¬ k < 0) (hn1 : n.toNatClampNeg ≤ 1000) (hk1 : k.toNatClampNeg ≤ 1000) (h3 : cells + (1 + n.toNatClampNeg) ≤ R.cells) (h4 : slots + (n.toNatClampNeg + n.toNatClampNeg * k.toNatClampNeg) ≤ R.slots) :
    ∃ (cG cI : ClassId) (F : State), s.vm.findClass "[[I" = some cG ∧ s.vm.findClass "[I" = some cI ∧ mn_H T.heap cG cI n.toNatClampNeg k.toNatClampNeg n.toNatClampNeg F.heap ∧ Stand p l e R s m args below meth c F locs (cells + 1 + n.toNatClampNeg) (slots + n.toNatClampNeg + n.toNatClampNeg * k.toNatClampNeg) ∧ ∀ target, Steps p.tables e below (F.setTop { g with pc := g.pc + 4, stack := .ref T.heap.size :: st }) target → Steps p.tables e below (T.setTop g) target := by
  subst hg
  obtain ⟨cI, cG, kG, fI, fG, kG1, kG2⟩ := mn_over hov
  obtain ⟨cI', kI, cc, fI', kI1, kI2⟩ := Cond.arrayClass_spec har
  cases Option.some.inj (fI.symm.trans fI')
  obtain ⟨cG', fG', hlk⟩ := Cond.classLink_spec hown hcl e.platform (by rw [X.admits.platform])
  cases Option.some.inj (fG.symm.trans fG')
  obtain ⟨hgv, hw, -⟩ := State.classEntry (e := e) X.warmed hlk
  generalize T.vm.noted g.method.cls idx (.cls cG) = vm1 at hgv hw
  obtain ⟨kG', kG1', eG⟩ := hw.alike.2.2 _ _ kG1
  obtain ⟨kI', kI1', eI⟩ := hw.alike.2.2 _ _ kI1
  have b1 : e.platform.arrayLengthLimit = _ := Launch.admits_arrayLengthLimit X.admits
  have b2 : e.platform.maxHeapBytes = 536870912 := Launch.admits_maxHeapBytes X.admits
  obtain ⟨F, f1, f2, f3⟩ := mn_make2 (n := n) (k := k) (cG := cG) (X.noted hw) hn hk (by rw [b1]; omega) (by rw [b2]; show ¬ n.toNatClampNeg * 4 > _; omega) (by rw [b1]; omega) (by rw [b2]; show ¬ k.toNatClampNeg * 4 > _; omega) h3 h4 kG1' kI1' (by rw [eG]; exact kG2) (by rw [eI]; exact kI2)
  refine ⟨cG, cI, F, fG, fI, f1, f2, fun target ht => ?_⟩
  jvm_step X.here [hx, hd]
  rw [multianewarray.sem]
  simp only [wp_bind']
  rw [Jvm.W.resolveClassAt_links (State.method?_setTop g X.here.top) hgv]
  rw [wp_bind']
  refine (Jvm.Op.popN_top (s := T.setVm vm1) (f := g) (args := [.int n, .int k]) (rest := st) (X.noted hw).here.top hst).mpr ?_
  simp only [List.mapM_cons, List.mapM_nil, wp_bind', wp_pure']
  refine f3 _ _ _ _ _ (fun d' acts' => ?_)
  simp only [wp_bind', Jvm.W.mark, Jvm.W.pushRef]
  refine ⟨_, State.topJava?_setTop' _ f2.here.top, fun acts2 => ?_⟩
  simpa [jvm, f2.here.top] using ht
end MN
end
