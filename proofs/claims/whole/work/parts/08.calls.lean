theorem wX_good {y : MethodName} {bytes : ByteArray} {maxL : Nat} {ret : Option FieldType} (h : Cond.code y bytes maxL ret ∈ TT) : GoodIn TT (wX y bytes maxL ret) := fun w hw => (List.mem_cons.mp hw).elim (fun e => e ▸ TT_good _ h) (fun h => TT_good w h)
theorem Wd_blind {ad : Nat → Nat} {D : va_G} {cI cZ cG : ClassId} {σ : GS} {av : List Value} : FrameBlind (va_Pc av (Wd ad D cI cZ cG σ)) := fun a U g mk q => ⟨q.1, q.2.1, q.2.2.call g mk a⟩
section XC
variable {p : Program} {l : Launch} {e : Env} {R : Room} {s : State} {m : MethodId} {args : Array Value} {below : List Frame} {meth : Method} {c : Code} {ad : Nat → Nat} {D : va_G} {cI cZ cG : ClassId} {A : Nat → Prop} {cc : ByteArray} {nL kc ks : Nat} {own : String} {ret : Option FieldType} {Q : State → Prop} {σ : GS} {pc q : Nat} {lv lv' : List (Nat × Value)} {st : List Value}
theorem x_iret {z : Int} {P : Int → GS → Prop} (C : Cx p s m args meth c ad D cI cZ cG (Aw ad) cc nL own (some .int)) (hd : decode cc pc = .ok (.ireturn, 1)) (h : P z σ) : V p l e R s m args below meth c ad D cI cZ cG (Aw ad) nL 0 0 (MQ below (QI ad D cI cZ cG P) args s 0 0 (Aw ad)) σ pc lv [.int (iI z)] := by
  intro H locs ls hP hS hl
  refine W.iret C.1 C.2.1 C.2.2.2.2.2.2.2.2.1 (fun t ht hW => ?_) hS.2.2 hd C.2.2.2.2.2.2.2.2.2
  unfold QI va_Qi
  exact ⟨⟨iI z, σ, rfl, ⟨z, rfl, h⟩, by unfold Wh; rw [ht]; exact hP⟩, hS.F ht⟩
theorem x_zret {z : Int} {P : Int → GS → Prop} (C : Cx p s m args meth c ad D cI cZ cG (Aw ad) cc nL own (some .boolean)) (hd : decode cc pc = .ok (.ireturn, 1)) (hz : z = 0 ∨ z = 1) (h : P z σ) : V p l e R s m args below meth c ad D cI cZ cG (Aw ad) nL 0 0 (MQ below (QI ad D cI cZ cG P) args s 0 0 (Aw ad)) σ pc lv [.int (iI z)] := by
  intro H locs ls hP hS hl
  refine W.zret (ty := .boolean) C.1 C.2.1 C.2.2.2.2.2.2.2.2.1 (by rcases hz with rfl | rfl <;> rfl) (fun t ht hW => ?_) hS.2.2 hd C.2.2.2.2.2.2.2.2.2
  unfold QI va_Qi
  exact ⟨⟨iI z, σ, rfl, ⟨z, rfl, h⟩, by unfold Wh; rw [ht]; exact hP⟩, hS.F ht⟩
theorem x_lret {z : Int} {P : Int → GS → Prop} (C : Cx p s m args meth c ad D cI cZ cG (Aw ad) cc nL own (some .long)) (hd : decode cc pc = .ok (.lreturn, 1)) (h : P z σ) : V p l e R s m args below meth c ad D cI cZ cG (Aw ad) nL 0 0 (MQ below (QL ad D cI cZ cG P) args s 0 0 (Aw ad)) σ pc lv [.long (lI z)] := by
  intro H locs ls hP hS hl
  refine W.lret C.1 C.2.1 C.2.2.2.2.2.2.2.2.1 (fun t ht hW => ?_) hS.2.2 hd C.2.2.2.2.2.2.2.2.2
  unfold QL va_Ql
  exact ⟨⟨lI z, σ, rfl, ⟨z, rfl, h⟩, by unfold Wh; rw [ht]; exact hP⟩, hS.F ht⟩
theorem x_vret {P : GS → Prop} (C : Cx p s m args meth c ad D cI cZ cG (Aw ad) cc nL own none) (hd : decode cc pc = .ok (.return_, 1)) (h : P σ) : V p l e R s m args below meth c ad D cI cZ cG (Aw ad) nL 0 0 (MQ below (QV ad D cI cZ cG P) args s 0 0 (Aw ad)) σ pc lv [] := by
  intro H locs ls hP hS hl
  refine W.vret C.1 C.2.1 C.2.2.2.2.2.2.2.2.1 (fun t ht hW => ?_) hS.2.2 hd C.2.2.2.2.2.2.2.2.2
  unfold QV va_Qv
  exact ⟨⟨σ, rfl, h, by unfold Wh; rw [ht]; exact hP⟩, hS.F ht⟩
theorem x_virI {k ci n idx maxL : Nat} {fl : List (Option (Option Nat))} {T : u_T} {N : Nat} {y : MethodName} {bytes : ByteArray} {r9 : Option FieldType} {rm : Room} {As rest : List Value} {P : Int → GS → Prop} (C : Cx p s m args meth c ad D cI cZ cG A cc nL own ret) (hk : k < 65) (hl0 : lay k = cO ci fl) (hc : vwCl[ci]? = some (y.cls, T, N)) (K : CallOK own idx y bytes maxL r9 n) (Kv : VirtOK y)
    (hM : Met l y (wX y bytes maxL r9) rm (va_Pc (.ref (ad k) :: As) (Wd ad D cI cZ cG σ)) (QI ad D cI cZ cG P) 0 0 (Aw ad)) (hR : (rm.cells = 0 ∧ rm.slots = 0) ∧ (rm.frames + 1 ≤ R.frames ∧ 8 + (maxL + 11) + rm.locals ≤ R.locals) ∧ (kc ≤ R.cells ∧ ks ≤ R.slots)) (hd : decode cc pc = .ok (.invokevirtual idx, 3)) (hn : As.length = n) (hst : st = As.reverse ++ .ref (ad k) :: rest) (hcat : (rest.map fun v => v.category).sum ≤ 8) (hq : pc + 3 = q)
    (kk : ∀ (z : Int) (u : GS), P z u → V p l e R s m args below meth c ad D cI cZ cG A nL kc ks Q u q lv (.int (iI z) :: rest)) : V p l e R s m args below meth c ad D cI cZ cG A nL kc ks Q σ pc lv st := by
  subst hq
  subst hst
  intro H locs ls hP hS hl
  have hE : xE ad cI cZ cG σ k = .inr (ci, fvs ad (σ k) 0 fl) := by unfold xE; rw [hl0]; rfl
  have cb : CallB R s args own idx y bytes maxL r9 (wX y bytes maxL r9) rm 0 0 n := callB_of n C.2.2.2.2.1 (wX_good K.2.2.1) rfl hR.1.1 hR.1.2 (C.2.2.2.2.1 _ K.2.1) (C.2.2.2.2.1 _ K.1) K.2.2.2 hR.2.1
  refine va_calli (va_runV (As := As) (rest := rest) ⟨C.1, C.2.1, C.2.2.1, C.2.2.2.1, C.2.2.2.2.1⟩ hM ⟨cb, C.2.2.2.2.1 _ Kv.1, C.2.2.2.2.1 _ Kv.2⟩ ⟨Wd_blind, va_recv C.2.2.2.2.2.1.1 hP hc (wl_get hk hE), fun U hU hW => ⟨rfl, by rw [hU]; exact hP, Kw.warm hW C.2.2.2.2.2.1⟩⟩ rfl hn hl.1 rfl (lv_room hcat) hd ⟨by omega, by omega⟩) hS (fun q9 _ h9 => ?_) (fun q9 h9 => ?_) (fun r u t H1 locs1 ht hvm hw hB hz1 hk1 hS1 => ?_)
  · obtain ⟨k9, h1, rfl⟩ := h9
    exact C.2.2.2.2.2.2.2.1 k9 h1
  · obtain ⟨k9, h1, rfl⟩ := h9
    exact C.2.2.2.2.2.2.2.1 k9 h1
  · obtain ⟨z, rfl, hw⟩ := hw
    unfold Wh at hB
    rw [ht] at hB
    exact kk z u hw H1 locs1 ls hB hS1 hl
theorem x_staI {n idx maxL : Nat} {y : MethodName} {bytes : ByteArray} {r9 : Option FieldType} {rm : Room} {As rest : List Value} {P : Int → GS → Prop} (C : Cx p s m args meth c ad D cI cZ cG A cc nL own ret)  (K : CallOK own idx y bytes maxL r9 n) (Kv : Cond.static y ∈ TT)
    (hM : Met l y (wX y bytes maxL r9) rm (va_Pc As (Wd ad D cI cZ cG σ)) (QI ad D cI cZ cG P) 0 0 (Aw ad)) (hR : (rm.cells = 0 ∧ rm.slots = 0) ∧ (rm.frames + 1 ≤ R.frames ∧ 8 + (maxL + 11) + rm.locals ≤ R.locals) ∧ (kc ≤ R.cells ∧ ks ≤ R.slots)) (hd : decode cc pc = .ok (.invokestatic idx, 3)) (hn : As.length = n) (hst : st = As.reverse ++ rest) (hcat : (rest.map fun v => v.category).sum ≤ 8) (hq : pc + 3 = q)
    (kk : ∀ (z : Int) (u : GS), P z u → V p l e R s m args below meth c ad D cI cZ cG A nL kc ks Q u q lv (.int (iI z) :: rest)) : V p l e R s m args below meth c ad D cI cZ cG A nL kc ks Q σ pc lv st := by
  subst hq
  subst hst
  intro H locs ls hP hS hl
  have cb : CallB R s args own idx y bytes maxL r9 (wX y bytes maxL r9) rm 0 0 n := callB_of n C.2.2.2.2.1 (wX_good K.2.2.1) rfl hR.1.1 hR.1.2 (C.2.2.2.2.1 _ K.2.1) (C.2.2.2.2.1 _ K.1) K.2.2.2 hR.2.1
  refine va_calli (va_runS (As := As) (rest := rest) ⟨C.1, C.2.1, C.2.2.1, C.2.2.2.1, C.2.2.2.2.1⟩ hM ⟨cb, C.2.2.2.2.1 _ Kv⟩ ⟨Wd_blind, fun U hU hW => ⟨rfl, by rw [hU]; exact hP, Kw.warm hW C.2.2.2.2.2.1⟩⟩ rfl hn hl.1 rfl (lv_room hcat) hd ⟨by omega, by omega⟩) hS (fun q9 _ h9 => ?_) (fun q9 h9 => ?_) (fun r u t H1 locs1 ht hvm hw hB hz1 hk1 hS1 => ?_)
  · obtain ⟨k9, h1, rfl⟩ := h9
    exact C.2.2.2.2.2.2.2.1 k9 h1
  · obtain ⟨k9, h1, rfl⟩ := h9
    exact C.2.2.2.2.2.2.2.1 k9 h1
  · obtain ⟨z, rfl, hw⟩ := hw
    unfold Wh at hB
    rw [ht] at hB
    exact kk z u hw H1 locs1 ls hB hS1 hl
theorem x_nstI {n idx maxL : Nat} {y : MethodName} {bytes : ByteArray} {r9 : Option FieldType} {rm : Room} {As rest : List Value} {P : Int → GS → Prop} (C : Cx p s m args meth c ad D cI cZ cG A cc nL own ret)  {host : String} (Kn : va_Nw (.methodLinkNest own idx y host) s) (K : Cond.initialized y.cls ∈ TT ∧ Cond.code y bytes maxL r9 ∈ TT ∧ (y.cls ≠ "java/lang/invoke/MethodHandle" ∧ y.cls ≠ "java/lang/invoke/VarHandle" ∧ (parseMethodDescriptor y.desc).map (fun d => d.parameters.length) = some n)) (Kv : Cond.static y ∈ TT)
    (hM : Met l y (wX y bytes maxL r9) rm (va_Pc As (Wd ad D cI cZ cG σ)) (QI ad D cI cZ cG P) 0 0 (Aw ad)) (hR : (rm.cells = 0 ∧ rm.slots = 0) ∧ (rm.frames + 1 ≤ R.frames ∧ 8 + (maxL + 11) + rm.locals ≤ R.locals) ∧ (kc ≤ R.cells ∧ ks ≤ R.slots)) (hd : decode cc pc = .ok (.invokestatic idx, 3)) (hn : As.length = n) (hst : st = As.reverse ++ rest) (hcat : (rest.map fun v => v.category).sum ≤ 8) (hq : pc + 3 = q)
    (kk : ∀ (z : Int) (u : GS), P z u → V p l e R s m args below meth c ad D cI cZ cG A nL kc ks Q u q lv (.int (iI z) :: rest)) : V p l e R s m args below meth c ad D cI cZ cG A nL kc ks Q σ pc lv st := by
  subst hq
  subst hst
  intro H locs ls hP hS hl
  have cb := va_cnB (R := R) (mc := 0) (ms := 0) (rm := rm) n C.2.2.2.2.1 (wX_good K.2.1) rfl hR.1.1 hR.1.2 Kn (C.2.2.2.2.1 _ K.1) K.2.2 hR.2.1
  refine va_calli (va_runSN (As := As) (rest := rest) ⟨C.1, C.2.1, C.2.2.1, C.2.2.2.1, C.2.2.2.2.1⟩ hM ⟨cb, C.2.2.2.2.1 _ Kv, trivial⟩ ⟨Wd_blind, fun U hU hW => ⟨rfl, by rw [hU]; exact hP, Kw.warm hW C.2.2.2.2.2.1⟩⟩ rfl hn hl.1 rfl (lv_room hcat) hd ⟨by omega, by omega⟩) hS (fun q9 _ h9 => ?_) (fun q9 h9 => ?_) (fun r u t H1 locs1 ht hvm hw hB hz1 hk1 hS1 => ?_)
  · obtain ⟨k9, h1, rfl⟩ := h9
    exact C.2.2.2.2.2.2.2.1 k9 h1
  · obtain ⟨k9, h1, rfl⟩ := h9
    exact C.2.2.2.2.2.2.2.1 k9 h1
  · obtain ⟨z, rfl, hw⟩ := hw
    unfold Wh at hB
    rw [ht] at hB
    exact kk z u hw H1 locs1 ls hB hS1 hl
theorem x_virL {k ci n idx maxL : Nat} {fl : List (Option (Option Nat))} {T : u_T} {N : Nat} {y : MethodName} {bytes : ByteArray} {r9 : Option FieldType} {rm : Room} {As rest : List Value} {P : Int → GS → Prop} (C : Cx p s m args meth c ad D cI cZ cG A cc nL own ret) (hk : k < 65) (hl0 : lay k = cO ci fl) (hc : vwCl[ci]? = some (y.cls, T, N)) (K : CallOK own idx y bytes maxL r9 n) (Kv : VirtOK y)
    (hM : Met l y (wX y bytes maxL r9) rm (va_Pc (.ref (ad k) :: As) (Wd ad D cI cZ cG σ)) (QL ad D cI cZ cG P) 0 0 (Aw ad)) (hR : (rm.cells = 0 ∧ rm.slots = 0) ∧ (rm.frames + 1 ≤ R.frames ∧ 8 + (maxL + 11) + rm.locals ≤ R.locals) ∧ (kc ≤ R.cells ∧ ks ≤ R.slots)) (hd : decode cc pc = .ok (.invokevirtual idx, 3)) (hn : As.length = n) (hst : st = As.reverse ++ .ref (ad k) :: rest) (hcat : (rest.map fun v => v.category).sum ≤ 8) (hq : pc + 3 = q)
    (kk : ∀ (z : Int) (u : GS), P z u → V p l e R s m args below meth c ad D cI cZ cG A nL kc ks Q u q lv (.long (lI z) :: rest)) : V p l e R s m args below meth c ad D cI cZ cG A nL kc ks Q σ pc lv st := by
  subst hq
  subst hst
  intro H locs ls hP hS hl
  have hE : xE ad cI cZ cG σ k = .inr (ci, fvs ad (σ k) 0 fl) := by unfold xE; rw [hl0]; rfl
  have cb : CallB R s args own idx y bytes maxL r9 (wX y bytes maxL r9) rm 0 0 n := callB_of n C.2.2.2.2.1 (wX_good K.2.2.1) rfl hR.1.1 hR.1.2 (C.2.2.2.2.1 _ K.2.1) (C.2.2.2.2.1 _ K.1) K.2.2.2 hR.2.1
  refine va_calll (va_runV (As := As) (rest := rest) ⟨C.1, C.2.1, C.2.2.1, C.2.2.2.1, C.2.2.2.2.1⟩ hM ⟨cb, C.2.2.2.2.1 _ Kv.1, C.2.2.2.2.1 _ Kv.2⟩ ⟨Wd_blind, va_recv C.2.2.2.2.2.1.1 hP hc (wl_get hk hE), fun U hU hW => ⟨rfl, by rw [hU]; exact hP, Kw.warm hW C.2.2.2.2.2.1⟩⟩ rfl hn hl.1 rfl (lv_room hcat) hd ⟨by omega, by omega⟩) hS (fun q9 _ h9 => ?_) (fun q9 h9 => ?_) (fun r u t H1 locs1 ht hvm hw hB hz1 hk1 hS1 => ?_)
  · obtain ⟨k9, h1, rfl⟩ := h9
    exact C.2.2.2.2.2.2.2.1 k9 h1
  · obtain ⟨k9, h1, rfl⟩ := h9
    exact C.2.2.2.2.2.2.2.1 k9 h1
  · obtain ⟨z, rfl, hw⟩ := hw
    unfold Wh at hB
    rw [ht] at hB
    exact kk z u hw H1 locs1 ls hB hS1 hl
theorem x_staL {n idx maxL : Nat} {y : MethodName} {bytes : ByteArray} {r9 : Option FieldType} {rm : Room} {As rest : List Value} {P : Int → GS → Prop} (C : Cx p s m args meth c ad D cI cZ cG A cc nL own ret)  (K : CallOK own idx y bytes maxL r9 n) (Kv : Cond.static y ∈ TT)
    (hM : Met l y (wX y bytes maxL r9) rm (va_Pc As (Wd ad D cI cZ cG σ)) (QL ad D cI cZ cG P) 0 0 (Aw ad)) (hR : (rm.cells = 0 ∧ rm.slots = 0) ∧ (rm.frames + 1 ≤ R.frames ∧ 8 + (maxL + 11) + rm.locals ≤ R.locals) ∧ (kc ≤ R.cells ∧ ks ≤ R.slots)) (hd : decode cc pc = .ok (.invokestatic idx, 3)) (hn : As.length = n) (hst : st = As.reverse ++ rest) (hcat : (rest.map fun v => v.category).sum ≤ 8) (hq : pc + 3 = q)
    (kk : ∀ (z : Int) (u : GS), P z u → V p l e R s m args below meth c ad D cI cZ cG A nL kc ks Q u q lv (.long (lI z) :: rest)) : V p l e R s m args below meth c ad D cI cZ cG A nL kc ks Q σ pc lv st := by
  subst hq
  subst hst
  intro H locs ls hP hS hl
  have cb : CallB R s args own idx y bytes maxL r9 (wX y bytes maxL r9) rm 0 0 n := callB_of n C.2.2.2.2.1 (wX_good K.2.2.1) rfl hR.1.1 hR.1.2 (C.2.2.2.2.1 _ K.2.1) (C.2.2.2.2.1 _ K.1) K.2.2.2 hR.2.1
  refine va_calll (va_runS (As := As) (rest := rest) ⟨C.1, C.2.1, C.2.2.1, C.2.2.2.1, C.2.2.2.2.1⟩ hM ⟨cb, C.2.2.2.2.1 _ Kv⟩ ⟨Wd_blind, fun U hU hW => ⟨rfl, by rw [hU]; exact hP, Kw.warm hW C.2.2.2.2.2.1⟩⟩ rfl hn hl.1 rfl (lv_room hcat) hd ⟨by omega, by omega⟩) hS (fun q9 _ h9 => ?_) (fun q9 h9 => ?_) (fun r u t H1 locs1 ht hvm hw hB hz1 hk1 hS1 => ?_)
  · obtain ⟨k9, h1, rfl⟩ := h9
    exact C.2.2.2.2.2.2.2.1 k9 h1
  · obtain ⟨k9, h1, rfl⟩ := h9
    exact C.2.2.2.2.2.2.2.1 k9 h1
  · obtain ⟨z, rfl, hw⟩ := hw
    unfold Wh at hB
    rw [ht] at hB
    exact kk z u hw H1 locs1 ls hB hS1 hl
theorem x_nstL {n idx maxL : Nat} {y : MethodName} {bytes : ByteArray} {r9 : Option FieldType} {rm : Room} {As rest : List Value} {P : Int → GS → Prop} (C : Cx p s m args meth c ad D cI cZ cG A cc nL own ret)  {host : String} (Kn : va_Nw (.methodLinkNest own idx y host) s) (K : Cond.initialized y.cls ∈ TT ∧ Cond.code y bytes maxL r9 ∈ TT ∧ (y.cls ≠ "java/lang/invoke/MethodHandle" ∧ y.cls ≠ "java/lang/invoke/VarHandle" ∧ (parseMethodDescriptor y.desc).map (fun d => d.parameters.length) = some n)) (Kv : Cond.static y ∈ TT)
    (hM : Met l y (wX y bytes maxL r9) rm (va_Pc As (Wd ad D cI cZ cG σ)) (QL ad D cI cZ cG P) 0 0 (Aw ad)) (hR : (rm.cells = 0 ∧ rm.slots = 0) ∧ (rm.frames + 1 ≤ R.frames ∧ 8 + (maxL + 11) + rm.locals ≤ R.locals) ∧ (kc ≤ R.cells ∧ ks ≤ R.slots)) (hd : decode cc pc = .ok (.invokestatic idx, 3)) (hn : As.length = n) (hst : st = As.reverse ++ rest) (hcat : (rest.map fun v => v.category).sum ≤ 8) (hq : pc + 3 = q)
    (kk : ∀ (z : Int) (u : GS), P z u → V p l e R s m args below meth c ad D cI cZ cG A nL kc ks Q u q lv (.long (lI z) :: rest)) : V p l e R s m args below meth c ad D cI cZ cG A nL kc ks Q σ pc lv st := by
  subst hq
  subst hst
  intro H locs ls hP hS hl
  have cb := va_cnB (R := R) (mc := 0) (ms := 0) (rm := rm) n C.2.2.2.2.1 (wX_good K.2.1) rfl hR.1.1 hR.1.2 Kn (C.2.2.2.2.1 _ K.1) K.2.2 hR.2.1
  refine va_calll (va_runSN (As := As) (rest := rest) ⟨C.1, C.2.1, C.2.2.1, C.2.2.2.1, C.2.2.2.2.1⟩ hM ⟨cb, C.2.2.2.2.1 _ Kv, trivial⟩ ⟨Wd_blind, fun U hU hW => ⟨rfl, by rw [hU]; exact hP, Kw.warm hW C.2.2.2.2.2.1⟩⟩ rfl hn hl.1 rfl (lv_room hcat) hd ⟨by omega, by omega⟩) hS (fun q9 _ h9 => ?_) (fun q9 h9 => ?_) (fun r u t H1 locs1 ht hvm hw hB hz1 hk1 hS1 => ?_)
  · obtain ⟨k9, h1, rfl⟩ := h9
    exact C.2.2.2.2.2.2.2.1 k9 h1
  · obtain ⟨k9, h1, rfl⟩ := h9
    exact C.2.2.2.2.2.2.2.1 k9 h1
  · obtain ⟨z, rfl, hw⟩ := hw
    unfold Wh at hB
    rw [ht] at hB
    exact kk z u hw H1 locs1 ls hB hS1 hl
theorem x_virV {k ci n idx maxL : Nat} {fl : List (Option (Option Nat))} {T : u_T} {N : Nat} {y : MethodName} {bytes : ByteArray} {r9 : Option FieldType} {rm : Room} {As rest : List Value} {P : GS → Prop} (C : Cx p s m args meth c ad D cI cZ cG A cc nL own ret) (hk : k < 65) (hl0 : lay k = cO ci fl) (hc : vwCl[ci]? = some (y.cls, T, N)) (K : CallOK own idx y bytes maxL r9 n) (Kv : VirtOK y)
    (hM : Met l y (wX y bytes maxL r9) rm (va_Pc (.ref (ad k) :: As) (Wd ad D cI cZ cG σ)) (QV ad D cI cZ cG P) 0 0 (Aw ad)) (hR : (rm.cells = 0 ∧ rm.slots = 0) ∧ (rm.frames + 1 ≤ R.frames ∧ 8 + (maxL + 11) + rm.locals ≤ R.locals) ∧ (kc ≤ R.cells ∧ ks ≤ R.slots)) (hd : decode cc pc = .ok (.invokevirtual idx, 3)) (hn : As.length = n) (hst : st = As.reverse ++ .ref (ad k) :: rest) (hcat : (rest.map fun v => v.category).sum ≤ 8) (hq : pc + 3 = q)
    (kk : ∀  (u : GS), P u → V p l e R s m args below meth c ad D cI cZ cG A nL kc ks Q u q lv rest) : V p l e R s m args below meth c ad D cI cZ cG A nL kc ks Q σ pc lv st := by
  subst hq
  subst hst
  intro H locs ls hP hS hl
  have hE : xE ad cI cZ cG σ k = .inr (ci, fvs ad (σ k) 0 fl) := by unfold xE; rw [hl0]; rfl
  have cb : CallB R s args own idx y bytes maxL r9 (wX y bytes maxL r9) rm 0 0 n := callB_of n C.2.2.2.2.1 (wX_good K.2.2.1) rfl hR.1.1 hR.1.2 (C.2.2.2.2.1 _ K.2.1) (C.2.2.2.2.1 _ K.1) K.2.2.2 hR.2.1
  refine va_callv (va_runV (As := As) (rest := rest) ⟨C.1, C.2.1, C.2.2.1, C.2.2.2.1, C.2.2.2.2.1⟩ hM ⟨cb, C.2.2.2.2.1 _ Kv.1, C.2.2.2.2.1 _ Kv.2⟩ ⟨Wd_blind, va_recv C.2.2.2.2.2.1.1 hP hc (wl_get hk hE), fun U hU hW => ⟨rfl, by rw [hU]; exact hP, Kw.warm hW C.2.2.2.2.2.1⟩⟩ rfl hn hl.1 rfl (lv_room hcat) hd ⟨by omega, by omega⟩) hS (fun q9 _ h9 => ?_) (fun q9 h9 => ?_) (fun u t H1 locs1 ht hvm hw hB hz1 hk1 hS1 => ?_)
  · obtain ⟨k9, h1, rfl⟩ := h9
    exact C.2.2.2.2.2.2.2.1 k9 h1
  · obtain ⟨k9, h1, rfl⟩ := h9
    exact C.2.2.2.2.2.2.2.1 k9 h1
  · skip
    unfold Wh at hB
    rw [ht] at hB
    exact kk u hw H1 locs1 ls hB hS1 hl
theorem x_staV {n idx maxL : Nat} {y : MethodName} {bytes : ByteArray} {r9 : Option FieldType} {rm : Room} {As rest : List Value} {P : GS → Prop} (C : Cx p s m args meth c ad D cI cZ cG A cc nL own ret)  (K : CallOK own idx y bytes maxL r9 n) (Kv : Cond.static y ∈ TT)
    (hM : Met l y (wX y bytes maxL r9) rm (va_Pc As (Wd ad D cI cZ cG σ)) (QV ad D cI cZ cG P) 0 0 (Aw ad)) (hR : (rm.cells = 0 ∧ rm.slots = 0) ∧ (rm.frames + 1 ≤ R.frames ∧ 8 + (maxL + 11) + rm.locals ≤ R.locals) ∧ (kc ≤ R.cells ∧ ks ≤ R.slots)) (hd : decode cc pc = .ok (.invokestatic idx, 3)) (hn : As.length = n) (hst : st = As.reverse ++ rest) (hcat : (rest.map fun v => v.category).sum ≤ 8) (hq : pc + 3 = q)
    (kk : ∀  (u : GS), P u → V p l e R s m args below meth c ad D cI cZ cG A nL kc ks Q u q lv rest) : V p l e R s m args below meth c ad D cI cZ cG A nL kc ks Q σ pc lv st := by
  subst hq
  subst hst
  intro H locs ls hP hS hl
  have cb : CallB R s args own idx y bytes maxL r9 (wX y bytes maxL r9) rm 0 0 n := callB_of n C.2.2.2.2.1 (wX_good K.2.2.1) rfl hR.1.1 hR.1.2 (C.2.2.2.2.1 _ K.2.1) (C.2.2.2.2.1 _ K.1) K.2.2.2 hR.2.1
  refine va_callv (va_runS (As := As) (rest := rest) ⟨C.1, C.2.1, C.2.2.1, C.2.2.2.1, C.2.2.2.2.1⟩ hM ⟨cb, C.2.2.2.2.1 _ Kv⟩ ⟨Wd_blind, fun U hU hW => ⟨rfl, by rw [hU]; exact hP, Kw.warm hW C.2.2.2.2.2.1⟩⟩ rfl hn hl.1 rfl (lv_room hcat) hd ⟨by omega, by omega⟩) hS (fun q9 _ h9 => ?_) (fun q9 h9 => ?_) (fun u t H1 locs1 ht hvm hw hB hz1 hk1 hS1 => ?_)
  · obtain ⟨k9, h1, rfl⟩ := h9
    exact C.2.2.2.2.2.2.2.1 k9 h1
  · obtain ⟨k9, h1, rfl⟩ := h9
    exact C.2.2.2.2.2.2.2.1 k9 h1
  · skip
    unfold Wh at hB
    rw [ht] at hB
    exact kk u hw H1 locs1 ls hB hS1 hl
theorem x_nstV {n idx maxL : Nat} {y : MethodName} {bytes : ByteArray} {r9 : Option FieldType} {rm : Room} {As rest : List Value} {P : GS → Prop} (C : Cx p s m args meth c ad D cI cZ cG A cc nL own ret)  {host : String} (Kn : va_Nw (.methodLinkNest own idx y host) s) (K : Cond.initialized y.cls ∈ TT ∧ Cond.code y bytes maxL r9 ∈ TT ∧ (y.cls ≠ "java/lang/invoke/MethodHandle" ∧ y.cls ≠ "java/lang/invoke/VarHandle" ∧ (parseMethodDescriptor y.desc).map (fun d => d.parameters.length) = some n)) (Kv : Cond.static y ∈ TT)
    (hM : Met l y (wX y bytes maxL r9) rm (va_Pc As (Wd ad D cI cZ cG σ)) (QV ad D cI cZ cG P) 0 0 (Aw ad)) (hR : (rm.cells = 0 ∧ rm.slots = 0) ∧ (rm.frames + 1 ≤ R.frames ∧ 8 + (maxL + 11) + rm.locals ≤ R.locals) ∧ (kc ≤ R.cells ∧ ks ≤ R.slots)) (hd : decode cc pc = .ok (.invokestatic idx, 3)) (hn : As.length = n) (hst : st = As.reverse ++ rest) (hcat : (rest.map fun v => v.category).sum ≤ 8) (hq : pc + 3 = q)
    (kk : ∀  (u : GS), P u → V p l e R s m args below meth c ad D cI cZ cG A nL kc ks Q u q lv rest) : V p l e R s m args below meth c ad D cI cZ cG A nL kc ks Q σ pc lv st := by
  subst hq
  subst hst
  intro H locs ls hP hS hl
  have cb := va_cnB (R := R) (mc := 0) (ms := 0) (rm := rm) n C.2.2.2.2.1 (wX_good K.2.1) rfl hR.1.1 hR.1.2 Kn (C.2.2.2.2.1 _ K.1) K.2.2 hR.2.1
  refine va_callv (va_runSN (As := As) (rest := rest) ⟨C.1, C.2.1, C.2.2.1, C.2.2.2.1, C.2.2.2.2.1⟩ hM ⟨cb, C.2.2.2.2.1 _ Kv, trivial⟩ ⟨Wd_blind, fun U hU hW => ⟨rfl, by rw [hU]; exact hP, Kw.warm hW C.2.2.2.2.2.1⟩⟩ rfl hn hl.1 rfl (lv_room hcat) hd ⟨by omega, by omega⟩) hS (fun q9 _ h9 => ?_) (fun q9 h9 => ?_) (fun u t H1 locs1 ht hvm hw hB hz1 hk1 hS1 => ?_)
  · obtain ⟨k9, h1, rfl⟩ := h9
    exact C.2.2.2.2.2.2.2.1 k9 h1
  · obtain ⟨k9, h1, rfl⟩ := h9
    exact C.2.2.2.2.2.2.2.1 k9 h1
  · skip
    unfold Wh at hB
    rw [ht] at hB
    exact kk u hw H1 locs1 ls hB hS1 hl
theorem x_copy {k0 k1 n0 n1 idx : Nat} {n : Int} (C : Cx p s m args meth c ad D cI cZ cG A cc nL own ret) (h0 : k0 < 65) (hl0 : lay k0 = cA n0) (h1 : k1 < 65) (hl1 : lay k1 = cA n1) (hb : n0 < 2147483648 ∧ n1 < 2147483648) (hw : Cond.methodLink own idx arraycopyName ∈ TT) (hw2 : Cond.native arraycopyName ∈ TT ∧ Cond.static arraycopyName ∈ TT ∧ Cond.initialized "java/lang/System" ∈ TT) (hR : 1 ≤ R.frames ∧ (st.map fun v => v.category).sum + 18 ≤ R.locals) (hd : decode cc pc = .ok (.invokestatic idx, 3)) (hn : 0 ≤ n ∧ n ≤ n0 ∧ n ≤ n1) (hq : pc + 3 = q)
    (kk : V p l e R s m args below meth c ad D cI cZ cG A nL kc ks Q (upR σ k1 (cp (σ k0) (σ k1) n.toNat)) q lv st) : V p l e R s m args below meth c ad D cI cZ cG A nL kc ks Q σ pc lv (.int (iI n) :: .int (iI 0) :: .ref (ad k1) :: .int (iI 0) :: .ref (ad k0) :: st) := by
  subst hq
  intro H locs ls hP hS hl
  have hE0 : xE ad cI cZ cG σ k0 = .inl (cI, n0, .inl (fun i => iI (σ k0 i))) := by unfold xE; rw [hl0]; rfl
  have hE1 : xE ad cI cZ cG σ k1 = .inl (cI, n1, .inl (fun i => iI (σ k1 i))) := by unfold xE; rw [hl1]; rfl
  have ez : (iI 0).toNatClampNeg = 0 := rfl
  have en : (iI n).toNatClampNeg = n.toNat := iI_clamp hn.1 (by omega)
  have e18 : nativeFrameWords "java/lang/System" "arraycopy" 5 = 7 := by decide
  have hr2 : (st.map fun v => v.category).sum + (nativeFrameWords "java/lang/System" "arraycopy" 5 + 11) ≤ R.locals := by rw [e18]; omega
  have hn0 : ¬ iI n < 0 := fun h9 => by rw [iI_0, iI_lt ⟨⟨by omega, by omega⟩, by decide⟩] at h9; omega
  refine va_copyi (ty := .int) (sp := iI 0) (dp := iI 0) (n := iI n) (rest := st) C.1 C.2.1 (C.2.2.1.trans hl.1.symm) C.2.2.2.1 (C.2.2.2.2.1 _ hw) (C.2.2.2.2.1 _ hw2.1) (C.2.2.2.2.1 _ hw2.2.1) (C.2.2.2.2.1 _ hw2.2.2) C.2.2.2.2.2.1.1 hP (wl_D C.2.2.2.2.2.2.1 C.2.2.2.2.2.2.2.1 σ) hS k0 k1 0 0 (wl_get h0 hE0) (wl_get h1 hE1) rfl rfl rfl (by decide) (by decide) hn0 (by rw [ez, en]; omega) (by rw [ez, en]; omega) (fun _ _ => rfl) hR.1 hr2 hd (fun H1 locs1 hP1 _ hS1 => ?_)
  have hE2 : xE ad cI cZ cG (upR σ k1 (cp (σ k0) (σ k1) n.toNat)) k1 = .inl (cI, n1, .inl (va_cpy (fun i => iI (σ k0 i)) (fun i => iI (σ k1 i)) (iI 0).toNatClampNeg (iI 0).toNatClampNeg (iI n).toNatClampNeg)) := by
    have e0 : va_cpy (fun i => iI (σ k0 i)) (fun i => iI (σ k1 i)) (iI 0).toNatClampNeg (iI 0).toNatClampNeg (iI n).toNatClampNeg = fun j => iI (upR σ k1 (cp (σ k0) (σ k1) n.toNat) k1 j) := by
      funext j
      rw [ez, en]
      by_cases e : j < n.toNat
      · simp [va_cpy, upR, cp, e]
      · simp [va_cpy, upR, cp, e]
    unfold xE
    rw [hl1, e0]
    rfl
  rw [wl_set (σ' := upR σ k1 (cp (σ k0) (σ k1) n.toNat)) h1 hE2 (fun j hj => xE_other j hj)] at hP1
  exact kk H1 locs1 ls hP1 hS1 hl
theorem x_max {idx : Nat} {a b : Int} (C : Cx p s m args meth c ad D cI cZ cG A cc nL own ret) (hw : Cond.methodLink own idx Lib.Math.max.name ∈ TT) (hw2 : Cond.static Lib.Math.max.name ∈ TT ∧ Cond.initialized "java/lang/Math" ∈ TT ∧ Cond.code Lib.Math.max.name Lib.Math.max.code 2 (some .int) ∈ TT) (hR : (1 ≤ R.frames ∧ (st.map fun v => v.category).sum + 13 ≤ R.locals) ∧ (kc ≤ R.cells ∧ ks ≤ R.slots)) (hd : decode cc pc = .ok (.invokestatic idx, 3)) (h : rg a ∧ rg b) (hq : pc + 3 = q)
    (kk : V p l e R s m args below meth c ad D cI cZ cG A nL kc ks Q σ q lv (.int (iI (max a b)) :: st)) : V p l e R s m args below meth c ad D cI cZ cG A nL kc ks Q σ pc lv (.int (iI b) :: .int (iI a) :: st) := by
  subst hq
  intro H locs ls hP hS hl
  refine va_mmax C.1 C.2.1 (C.2.2.1.trans hl.1.symm) C.2.2.2.1 (C.2.2.2.2.1 _ hw) (C.2.2.2.2.1 _ hw2.1) (C.2.2.2.2.1 _ hw2.2.1) (C.2.2.2.2.1 _ hw2.2.2) hR.1.1 hR.1.2 hR.2.1 hR.2.2 hd ?_
  have e9 : (if iI a < iI b then iI b else iI a) = iI (max a b) := by
    by_cases h9 : a < b
    · rw [if_pos]
      · congr 1; omega
      · exact (iI_lt h).mpr h9
    · rw [if_neg]
      · congr 1; omega
      · rw [iI_lt h]; exact h9
  rw [e9]
  exact kk H locs ls hP hS hl
theorem x_min {idx : Nat} {a b : Int} (C : Cx p s m args meth c ad D cI cZ cG A cc nL own ret) (hw : Cond.methodLink own idx Lib.Math.min.name ∈ TT) (hw2 : Cond.static Lib.Math.min.name ∈ TT ∧ Cond.initialized "java/lang/Math" ∈ TT ∧ Cond.code Lib.Math.min.name Lib.Math.min.code 2 (some .int) ∈ TT) (hR : (1 ≤ R.frames ∧ (st.map fun v => v.category).sum + 13 ≤ R.locals) ∧ (kc ≤ R.cells ∧ ks ≤ R.slots)) (hd : decode cc pc = .ok (.invokestatic idx, 3)) (h : rg a ∧ rg b) (hq : pc + 3 = q)
    (kk : V p l e R s m args below meth c ad D cI cZ cG A nL kc ks Q σ q lv (.int (iI (min a b)) :: st)) : V p l e R s m args below meth c ad D cI cZ cG A nL kc ks Q σ pc lv (.int (iI b) :: .int (iI a) :: st) := by
  subst hq
  intro H locs ls hP hS hl
  refine va_mmin C.1 C.2.1 (C.2.2.1.trans hl.1.symm) C.2.2.2.1 (C.2.2.2.2.1 _ hw) (C.2.2.2.2.1 _ hw2.1) (C.2.2.2.2.1 _ hw2.2.1) (C.2.2.2.2.1 _ hw2.2.2) hR.1.1 hR.1.2 hR.2.1 hR.2.2 hd ?_
  have e9 : (if iI b < iI a then iI b else iI a) = iI (min a b) := by
    first | simp only [iI_lt h] | simp only [iI_lt ⟨h.2, h.1⟩] | simp only [iI_le h] | simp only [iI_le ⟨h.2, h.1⟩]
    split <;> congr 1 <;> omega
  rw [e9]
  exact kk H locs ls hP hS hl
theorem x_abs {idx : Nat} {a : Int} (C : Cx p s m args meth c ad D cI cZ cG A cc nL own ret) (hw : Cond.methodLink own idx Lib.Math.abs.name ∈ TT) (hw2 : Cond.static Lib.Math.abs.name ∈ TT ∧ Cond.initialized "java/lang/Math" ∈ TT ∧ Cond.code Lib.Math.abs.name Lib.Math.abs.code 1 (some .int) ∈ TT) (hR : (1 ≤ R.frames ∧ (st.map fun v => v.category).sum + 13 ≤ R.locals) ∧ (kc ≤ R.cells ∧ ks ≤ R.slots)) (hd : decode cc pc = .ok (.invokestatic idx, 3)) (h : rg a) (hq : pc + 3 = q)
    (kk : V p l e R s m args below meth c ad D cI cZ cG A nL kc ks Q σ q lv (.int (iI (if 0 ≤ a then a else 0 - a)) :: st)) : V p l e R s m args below meth c ad D cI cZ cG A nL kc ks Q σ pc lv (.int (iI a) :: st) := by
  subst hq
  intro H locs ls hP hS hl
  refine va_mabs C.1 C.2.1 (C.2.2.1.trans hl.1.symm) C.2.2.2.1 (C.2.2.2.2.1 _ hw) (C.2.2.2.2.1 _ hw2.1) (C.2.2.2.2.1 _ hw2.2.1) (C.2.2.2.2.1 _ hw2.2.2) hR.1.1 hR.1.2 hR.2.1 hR.2.2 hd ?_
  have e9 : (if 0 ≤ iI a then iI a else 0 - iI a) = iI (if 0 ≤ a then a else 0 - a) := by
    rw [iI_0]
    simp only [iI_le (a := 0) (b := a) ⟨by decide, h⟩, iI_sub]
    split <;> rfl
  rw [e9]
  exact kk H locs ls hP hS hl
end XC
