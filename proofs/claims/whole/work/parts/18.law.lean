/-- a script's int -/
def sc (xs : Nat → Int32) (j : Nat) : Int := (xs j).toInt
/-- two ints of the script as a long -/
def jn (a b : Int) : Int := (((iI a).toInt64 <<< ((iI 32).toInt64 &&& 63)) ||| ((iI b).toInt64 &&& 4294967295)).toInt
def R_law : String := "FanBladesLaw"
def lw_Q (_ : Array Value) (s : State) (o : Outcome) (t : State) : Prop := o = .returned (some (.int 1)) ∧ Framed s o t [] 600000 7302250
def lw_Z (below : List Frame) (a : Array Value) (s : State) : State → Prop := fun t => ∃ o, t.status = .running ∧ Ended t below o ∧ lw_Q a s o t
/-- the law's own end, with 1 on the stack, nothing written that was there before, its room as the claim has it -/
theorem lw_ret {p : Program} {l : Launch} {e : Env} {s : State} {m : MethodId} {below : List Frame} {meth : Method} {c : Code} {b : Nat} (hx : p.tables.exec = Jvm.exec) (hb : c.code = code) (hr : meth.sig.returnType = ret) (hlocks : meth.locks = false) {pc : Nat} {H : Heap} {ls : Array Slot} (hdg : decode code pc = .ok (.ireturn, 1)) : W p l e room_1 s m #[Value.ref b] below meth c H [] 600000 7302250 (lw_Z below #[Value.ref b] s) (F0 m pc ls [.int 1]) := by
  intro T hT X
  obtain ⟨fs, hret, hrun, hended, hW, hframe⟩ := X.leave (v := some (.int 1)) (hlocks := hlocks) (fun h => by rw [hr] at h; cases h)
  have hmeth' : T.vm.method? m = some meth := X.method'
  refine ⟨T.setFrames fs, ?_, .returned (some (.int 1)), hrun, hended, rfl, ⟨_, rfl⟩, hW, hframe⟩
  jvm_step X.here [X.here.top, hx, hb, hdg, hmeth', hr, ret, narrow_b1]
  (try refine ⟨rfl, ?_⟩); (try refine ⟨rfl, ?_⟩)
  first | (intro acts; rw [hret _ acts rfl rfl rfl]) | rw [hret _ _ rfl rfl rfl]
  exact Steps.refl _
section XL
variable {p : Program} {l : Launch} {e : Env} {R : Room} {s : State} {m : MethodId} {args : Array Value} {below : List Frame} {meth : Method} {c : Code} {ad : Nat → Nat} {D : va_G} {cI cZ cG : ClassId} {A : Nat → Prop} {cc : ByteArray} {nL kc ks : Nat} {own : String} {ret : Option FieldType} {Q : State → Prop} {σ : GS} {pc q : Nat} {lv lv' : List (Nat × Value)} {st : List Value}
theorem x_slen {b L : Nat} {xs : Nat → Int32} (C : Cx p s m args meth c ad D cI cZ cG A cc nL own ret) (hX : va_X b L xs s s.heap) (hbl : b < s.heap.size) (hbA : ¬ A b) (hd : decode cc pc = .ok (.arraylength, 1)) (hq : pc + 1 = q)
    (kk : V p l e R s m args below meth c ad D cI cZ cG A nL kc ks Q σ q lv (.int (iI (L : Int)) :: st)) : V p l e R s m args below meth c ad D cI cZ cG A nL kc ks Q σ pc lv (.ref b :: st) := by
  subst hq
  intro H locs ls hP hS hl
  refine va_slen C.1 C.2.1 hX hbl hbA hS hd ?_
  rw [show Int32.ofNat L = iI (L : Int) from (iI_nat L).symm]
  exact kk H locs ls hP hS hl
theorem x_sld {b L : Nat} {xs : Nat → Int32} {i : Int} (C : Cx p s m args meth c ad D cI cZ cG A cc nL own ret) (hX : va_X b L xs s s.heap) (hbl : b < s.heap.size) (hbA : ¬ A b) (hd : decode cc pc = .ok (.iaload, 1)) (hi : 0 ≤ i ∧ i < (L : Int)) (hL : L < 2147483648) (hq : pc + 1 = q)
    (kk : V p l e R s m args below meth c ad D cI cZ cG A nL kc ks Q σ q lv (.int (iI (sc xs i.toNat)) :: st)) : V p l e R s m args below meth c ad D cI cZ cG A nL kc ks Q σ pc lv (.int (iI i) :: .ref b :: st) := by
  subst hq
  intro H locs ls hP hS hl
  refine va_sld C.1 C.2.1 hX hbl hbA hS (iI_in hi.1 hi.2 hL) hd ?_
  rw [iI_clamp hi.1 (by omega), ← iI_of (xs i.toNat)]
  exact kk H locs ls hP hS hl
theorem x_topl {x : Int64} (kk : V p l e R s m args below meth c ad D cI cZ cG A nL kc ks Q σ pc lv (.long (lI x.toInt) :: st)) : V p l e R s m args below meth c ad D cI cZ cG A nL kc ks Q σ pc lv (.long x :: st) := by
  rw [lI_of] at kk
  exact kk
end XL
theorem x_lawret {p : Program} {l : Launch} {e : Env} {s : State} {m : MethodId} {b : Nat} {below : List Frame} {meth : Method} {c : Code} {ad : Nat → Nat} {D : va_G} {cI cZ cG : ClassId} {σ : GS} {pc : Nat} {lv : List (Nat × Value)} (C : Cx p s m #[Value.ref b] meth c ad D cI cZ cG (fun q => s.heap.size ≤ q) cL_law 4 RL ret) (hd : decode cL_law pc = .ok (.ireturn, 1)) :
    V p l e room_1 s m #[Value.ref b] below meth c ad D cI cZ cG (fun q => s.heap.size ≤ q) 4 600000 7302250 (lw_Z below #[Value.ref b] s) σ pc lv [.int (iI 1)] := by
  intro H locs ls hP hS hl
  refine va_forget hS.2.2 ?_
  exact lw_ret C.1 C.2.1 C.2.2.2.2.2.2.2.2.1 C.2.2.2.2.2.2.2.2.2 hd
def vc_law (L : Nat) (xs : Nat → Int32) (σ : GS) : Prop :=
  ∃ I1 : Nat → Int → GS → Prop, (∃ n : Nat, I1 n 0 σ) ∧ ∀ (n1 : Nat) (v3_1 : Int) (σ1 : GS), I1 n1 v3_1 σ1 →
  ((rg v3_1) ∧
      ((rg ((L : Int) - 4)) ∧
      ((((L : Int) - 4) < v3_1 →
        (True)) ∧
      (¬ ((L : Int) - 4) < v3_1 →
        ((0 ≤ v3_1 ∧ v3_1 < (L : Int)) ∧
        ((rg ((sc xs v3_1.toNat) % 32)) ∧
        ((((sc xs v3_1.toNat) % 32) < 0 ∨ 26 < ((sc xs v3_1.toNat) % 32) →
          (∃ n' : Nat, n' < n1 ∧ I1 n' (v3_1 + 4) σ1)) ∧
        (((sc xs v3_1.toNat) % 32) = 0 →
          ((0 ≤ (v3_1 + 1) ∧ (v3_1 + 1) < (L : Int)) ∧
            (vc_X9_write σ1 (sc xs (v3_1 + 1).toNat) (fun (z10 : Int) (σ10 : GS) =>
              vc_X10_write σ10 (sc xs (v3_1 + 1).toNat) (fun (z11 : Int) (σ11 : GS) =>
              (rg z10) ∧
            ((rg z11) ∧
            ((z10 = z11 →
              (∃ n' : Nat, n' < n1 ∧ I1 n' (v3_1 + 4) σ11)) ∧
            (¬ z10 = z11 →
              (False))))))))) ∧
        (((sc xs v3_1.toNat) % 32) = 1 →
          (vc_X9_wipe σ1  (fun (z17 : Int) (σ17 : GS) =>
              vc_X10_wipe σ17  (fun (z18 : Int) (σ18 : GS) =>
              (rg z17) ∧
            ((rg z18) ∧
            ((z17 = z18 →
              (∃ n' : Nat, n' < n1 ∧ I1 n' (v3_1 + 4) σ18)) ∧
            (¬ z17 = z18 →
              (False)))))))) ∧
        (((sc xs v3_1.toNat) % 32) = 2 →
          (vc_X9_fault σ1  (fun (z24 : Int) =>
              vc_X10_fault σ1  (fun (z25 : Int) (σ25 : GS) =>
              (rg z24) ∧
            ((rg z25) ∧
            ((z24 = z25 →
              (∃ n' : Nat, n' < n1 ∧ I1 n' (v3_1 + 4) σ25)) ∧
            (¬ z24 = z25 →
              (False)))))))) ∧
        (((sc xs v3_1.toNat) % 32) = 3 →
          (vc_X9_fan σ1  (fun (z31 : Int) (σ31 : GS) =>
              vc_X10_fan σ31  (fun (z32 : Int) (σ32 : GS) =>
              (rg z31) ∧
            ((rg z32) ∧
            ((z31 = z32 →
              (∃ n' : Nat, n' < n1 ∧ I1 n' (v3_1 + 4) σ32)) ∧
            (¬ z31 = z32 →
              (False)))))))) ∧
        (((sc xs v3_1.toNat) % 32) = 4 →
          ((0 ≤ (v3_1 + 1) ∧ (v3_1 + 1) < (L : Int)) ∧
            ((0 ≤ (v3_1 + 2) ∧ (v3_1 + 2) < (L : Int)) ∧
            ((0 ≤ (v3_1 + 3) ∧ (v3_1 + 3) < (L : Int)) ∧
            (vc_X9_word σ1 (sc xs (v3_1 + 1).toNat) (jn (sc xs (v3_1 + 2).toNat) (sc xs (v3_1 + 3).toNat)) (fun (z41 : Int) (σ41 : GS) =>
              vc_X10_word σ41 (sc xs (v3_1 + 1).toNat) (jn (sc xs (v3_1 + 2).toNat) (sc xs (v3_1 + 3).toNat)) (fun (z42 : Int) (σ42 : GS) =>
              (rg z41) ∧
            ((rg z42) ∧
            ((z41 = z42 →
              (∃ n' : Nat, n' < n1 ∧ I1 n' (v3_1 + 4) σ42)) ∧
            (¬ z41 = z42 →
              (False))))))))))) ∧
        (((sc xs v3_1.toNat) % 32) = 5 →
          ((0 ≤ (v3_1 + 1) ∧ (v3_1 + 1) < (L : Int)) ∧
            ((0 ≤ (v3_1 + 2) ∧ (v3_1 + 2) < (L : Int)) ∧
            (vc_X9_blade σ1 (sc xs (v3_1 + 1).toNat) (sc xs (v3_1 + 2).toNat) (fun (z50 : Int) (σ50 : GS) =>
              vc_X10_blade σ50 (sc xs (v3_1 + 1).toNat) (sc xs (v3_1 + 2).toNat) (fun (z51 : Int) =>
              (rg z50) ∧
            ((rg z51) ∧
            ((z50 = z51 →
              (∃ n' : Nat, n' < n1 ∧ I1 n' (v3_1 + 4) σ50)) ∧
            (¬ z50 = z51 →
              (False)))))))))) ∧
        (((sc xs v3_1.toNat) % 32) = 6 →
          ((0 ≤ (v3_1 + 1) ∧ (v3_1 + 1) < (L : Int)) ∧
            ((0 ≤ (v3_1 + 2) ∧ (v3_1 + 2) < (L : Int)) ∧
            ((0 ≤ (v3_1 + 3) ∧ (v3_1 + 3) < (L : Int)) ∧
            (vc_X9_look σ1 (sc xs (v3_1 + 1).toNat) (sc xs (v3_1 + 2).toNat) (sc xs (v3_1 + 3).toNat) (fun (z60 : Int) (σ60 : GS) =>
              vc_X10_look σ60 (sc xs (v3_1 + 1).toNat) (sc xs (v3_1 + 2).toNat) (sc xs (v3_1 + 3).toNat) (fun (z61 : Int) =>
              (rg z60) ∧
            ((rg z61) ∧
            ((z60 = z61 →
              (∃ n' : Nat, n' < n1 ∧ I1 n' (v3_1 + 4) σ60)) ∧
            (¬ z60 = z61 →
              (False))))))))))) ∧
        (((sc xs v3_1.toNat) % 32) = 7 →
          ((0 ≤ (v3_1 + 1) ∧ (v3_1 + 1) < (L : Int)) ∧
            (vc_X9_spread σ1 (sc xs (v3_1 + 1).toNat) (fun (z68 : Int) (σ68 : GS) =>
              vc_X10_spread σ68 (sc xs (v3_1 + 1).toNat) (fun (z69 : Int) (σ69 : GS) =>
              (rg z68) ∧
            ((rg z69) ∧
            ((z68 = z69 →
              (∃ n' : Nat, n' < n1 ∧ I1 n' (v3_1 + 4) σ69)) ∧
            (¬ z68 = z69 →
              (False))))))))) ∧
        (((sc xs v3_1.toNat) % 32) = 8 →
          ((0 ≤ (v3_1 + 1) ∧ (v3_1 + 1) < (L : Int)) ∧
            (vc_X9_fold σ1 (sc xs (v3_1 + 1).toNat) (fun (z76 : Int) (σ76 : GS) =>
              vc_X10_fold σ76 (sc xs (v3_1 + 1).toNat) (fun (z77 : Int) (σ77 : GS) =>
              (rg z76) ∧
            ((rg z77) ∧
            ((z76 = z77 →
              (∃ n' : Nat, n' < n1 ∧ I1 n' (v3_1 + 4) σ77)) ∧
            (¬ z76 = z77 →
              (False))))))))) ∧
        (((sc xs v3_1.toNat) % 32) = 9 →
          (vc_X9_fling σ1  (fun (z83 : Int) (σ83 : GS) =>
              vc_X10_fling σ83  (fun (z84 : Int) (σ84 : GS) =>
              (rg z83) ∧
            ((rg z84) ∧
            ((z83 = z84 →
              (∃ n' : Nat, n' < n1 ∧ I1 n' (v3_1 + 4) σ84)) ∧
            (¬ z83 = z84 →
              (False)))))))) ∧
        (((sc xs v3_1.toNat) % 32) = 10 →
          (vc_X9_snap σ1  (fun (z90 : Int) (σ90 : GS) =>
              vc_X10_snap σ90  (fun (z91 : Int) (σ91 : GS) =>
              (rg z90) ∧
            ((rg z91) ∧
            ((z90 = z91 →
              (∃ n' : Nat, n' < n1 ∧ I1 n' (v3_1 + 4) σ91)) ∧
            (¬ z90 = z91 →
              (False)))))))) ∧
        (((sc xs v3_1.toNat) % 32) = 11 →
          (vc_X9_undo σ1  (fun (z97 : Int) (σ97 : GS) =>
              vc_X10_undo σ97  (fun (z98 : Int) (σ98 : GS) =>
              (rg z97) ∧
            ((rg z98) ∧
            ((z97 = z98 →
              (∃ n' : Nat, n' < n1 ∧ I1 n' (v3_1 + 4) σ98)) ∧
            (¬ z97 = z98 →
              (False)))))))) ∧
        (((sc xs v3_1.toNat) % 32) = 12 →
          ((0 ≤ (v3_1 + 1) ∧ (v3_1 + 1) < (L : Int)) ∧
            (vc_X9_reads σ1 (sc xs (v3_1 + 1).toNat) (fun (z105 : Int) (σ105 : GS) =>
              vc_X10_reads σ105 (sc xs (v3_1 + 1).toNat) (fun (z106 : Int) =>
              (rg z105) ∧
            ((rg z106) ∧
            ((z105 = z106 →
              (∃ n' : Nat, n' < n1 ∧ I1 n' (v3_1 + 4) σ105)) ∧
            (¬ z105 = z106 →
              (False))))))))) ∧
        (((sc xs v3_1.toNat) % 32) = 13 →
          ((0 ≤ (v3_1 + 1) ∧ (v3_1 + 1) < (L : Int)) ∧
            ((0 ≤ (v3_1 + 2) ∧ (v3_1 + 2) < (L : Int)) ∧
            (vc_X9_open σ1 (sc xs (v3_1 + 1).toNat) (sc xs (v3_1 + 2).toNat) (fun (z114 : Int) (σ114 : GS) =>
              vc_X10_open σ114 (sc xs (v3_1 + 1).toNat) (sc xs (v3_1 + 2).toNat) (fun (z115 : Int) (σ115 : GS) =>
              (rg z114) ∧
            ((rg z115) ∧
            ((z114 = z115 →
              (∃ n' : Nat, n' < n1 ∧ I1 n' (v3_1 + 4) σ115)) ∧
            (¬ z114 = z115 →
              (False)))))))))) ∧
        (((sc xs v3_1.toNat) % 32) = 14 →
          ((0 ≤ (v3_1 + 1) ∧ (v3_1 + 1) < (L : Int)) ∧
            ((0 ≤ (v3_1 + 2) ∧ (v3_1 + 2) < (L : Int)) ∧
            (vc_X9_most σ1 (sc xs (v3_1 + 1).toNat) (sc xs (v3_1 + 2).toNat) (fun (z123 : Int) (σ123 : GS) =>
              vc_X10_most σ123 (sc xs (v3_1 + 1).toNat) (sc xs (v3_1 + 2).toNat) (fun (z124 : Int) (σ124 : GS) =>
              (rg z123) ∧
            ((rg z124) ∧
            ((z123 = z124 →
              (∃ n' : Nat, n' < n1 ∧ I1 n' (v3_1 + 4) σ124)) ∧
            (¬ z123 = z124 →
              (False)))))))))) ∧
        (((sc xs v3_1.toNat) % 32) = 15 →
          ((0 ≤ (v3_1 + 1) ∧ (v3_1 + 1) < (L : Int)) ∧
            ((0 ≤ (v3_1 + 2) ∧ (v3_1 + 2) < (L : Int)) ∧
            ((0 ≤ (v3_1 + 3) ∧ (v3_1 + 3) < (L : Int)) ∧
            (vc_X9_judge σ1 (sc xs (v3_1 + 1).toNat) (jn (sc xs (v3_1 + 2).toNat) (sc xs (v3_1 + 3).toNat)) (fun (z133 : Int) (σ133 : GS) =>
              vc_X10_judge σ133 (sc xs (v3_1 + 1).toNat) (jn (sc xs (v3_1 + 2).toNat) (sc xs (v3_1 + 3).toNat)) (fun (z134 : Int) (σ134 : GS) =>
              (rg z133) ∧
            ((rg z134) ∧
            ((z133 = z134 →
              (∃ n' : Nat, n' < n1 ∧ I1 n' (v3_1 + 4) σ134)) ∧
            (¬ z133 = z134 →
              (False))))))))))) ∧
        (((sc xs v3_1.toNat) % 32) = 16 →
          ((0 ≤ (v3_1 + 1) ∧ (v3_1 + 1) < (L : Int)) ∧
            ((0 ≤ (v3_1 + 2) ∧ (v3_1 + 2) < (L : Int)) ∧
            ((0 ≤ (v3_1 + 3) ∧ (v3_1 + 3) < (L : Int)) ∧
            (vc_X9_spy σ1 (sc xs (v3_1 + 1).toNat) (sc xs (v3_1 + 2).toNat) (sc xs (v3_1 + 3).toNat) (fun (z143 : Int) (σ143 : GS) =>
              vc_X10_spy σ143 (sc xs (v3_1 + 1).toNat) (sc xs (v3_1 + 2).toNat) (sc xs (v3_1 + 3).toNat) (fun (z144 : Int) (σ144 : GS) =>
              (rg z143) ∧
            ((rg z144) ∧
            ((z143 = z144 →
              (∃ n' : Nat, n' < n1 ∧ I1 n' (v3_1 + 4) σ144)) ∧
            (¬ z143 = z144 →
              (False))))))))))) ∧
        (((sc xs v3_1.toNat) % 32) = 17 →
          (vc_X9_unspy σ1  (fun (z150 : Int) (σ150 : GS) =>
              vc_X10_unspy σ150  (fun (z151 : Int) (σ151 : GS) =>
              (rg z150) ∧
            ((rg z151) ∧
            ((z150 = z151 →
              (∃ n' : Nat, n' < n1 ∧ I1 n' (v3_1 + 4) σ151)) ∧
            (¬ z150 = z151 →
              (False)))))))) ∧
        (((sc xs v3_1.toNat) % 32) = 18 →
          ((0 ≤ (v3_1 + 1) ∧ (v3_1 + 1) < (L : Int)) ∧
            (vc_X9_gaps σ1 (sc xs (v3_1 + 1).toNat) (fun (z158 : Int) (σ158 : GS) =>
              vc_X10_gaps σ158 (sc xs (v3_1 + 1).toNat) (fun (z159 : Int) (σ159 : GS) =>
              (rg z158) ∧
            ((rg z159) ∧
            ((z158 = z159 →
              (∃ n' : Nat, n' < n1 ∧ I1 n' (v3_1 + 4) σ159)) ∧
            (¬ z158 = z159 →
              (False))))))))) ∧
        (((sc xs v3_1.toNat) % 32) = 19 →
          ((0 ≤ (v3_1 + 1) ∧ (v3_1 + 1) < (L : Int)) ∧
            ((0 ≤ (v3_1 + 2) ∧ (v3_1 + 2) < (L : Int)) ∧
            ((rg (sc xs (v3_1 + 2).toNat)) ∧
            (((sc xs (v3_1 + 2).toNat) = 0 →
              (vc_X9_share σ1 (sc xs (v3_1 + 1).toNat) 0 (fun (z169 : Int) =>
                ((sc xs (v3_1 + 2).toNat) = 0 →
                (vc_X10_share σ1 (sc xs (v3_1 + 1).toNat) 0 (fun (z171 : Int) =>
                  (rg z169) ∧
                ((rg z171) ∧
                ((z169 = z171 →
                  (∃ n' : Nat, n' < n1 ∧ I1 n' (v3_1 + 4) σ1)) ∧
                (¬ z169 = z171 →
                  (False))))))) ∧
              (¬ (sc xs (v3_1 + 2).toNat) = 0 →
                (vc_X10_share σ1 (sc xs (v3_1 + 1).toNat) 1 (fun (z177 : Int) =>
                  (rg z169) ∧
                ((rg z177) ∧
                ((z169 = z177 →
                  (∃ n' : Nat, n' < n1 ∧ I1 n' (v3_1 + 4) σ1)) ∧
                (¬ z169 = z177 →
                  (False)))))))))) ∧
            (¬ (sc xs (v3_1 + 2).toNat) = 0 →
              (vc_X9_share σ1 (sc xs (v3_1 + 1).toNat) 1 (fun (z183 : Int) =>
                ((sc xs (v3_1 + 2).toNat) = 0 →
                (vc_X10_share σ1 (sc xs (v3_1 + 1).toNat) 0 (fun (z185 : Int) =>
                  (rg z183) ∧
                ((rg z185) ∧
                ((z183 = z185 →
                  (∃ n' : Nat, n' < n1 ∧ I1 n' (v3_1 + 4) σ1)) ∧
                (¬ z183 = z185 →
                  (False))))))) ∧
              (¬ (sc xs (v3_1 + 2).toNat) = 0 →
                (vc_X10_share σ1 (sc xs (v3_1 + 1).toNat) 1 (fun (z191 : Int) =>
                  (rg z183) ∧
                ((rg z191) ∧
                ((z183 = z191 →
                  (∃ n' : Nat, n' < n1 ∧ I1 n' (v3_1 + 4) σ1)) ∧
                (¬ z183 = z191 →
                  (False))))))))))))))) ∧
        (((sc xs v3_1.toNat) % 32) = 20 →
          ((0 ≤ (v3_1 + 1) ∧ (v3_1 + 1) < (L : Int)) ∧
            ((0 ≤ (v3_1 + 2) ∧ (v3_1 + 2) < (L : Int)) ∧
            ((0 ≤ (v3_1 + 3) ∧ (v3_1 + 3) < (L : Int)) ∧
            (vc_X9_rests σ1 (sc xs (v3_1 + 1).toNat) (sc xs (v3_1 + 2).toNat) (sc xs (v3_1 + 3).toNat) (fun (z200 : Int) (σ200 : GS) =>
              vc_X10_rests σ200 (sc xs (v3_1 + 1).toNat) (sc xs (v3_1 + 2).toNat) (sc xs (v3_1 + 3).toNat) (fun (z201 : Int) (σ201 : GS) =>
              (rg z200) ∧
            ((rg z201) ∧
            ((z200 = z201 →
              (∃ n' : Nat, n' < n1 ∧ I1 n' (v3_1 + 4) σ201)) ∧
            (¬ z200 = z201 →
              (False))))))))))) ∧
        (((sc xs v3_1.toNat) % 32) = 21 →
          ((0 ≤ (v3_1 + 1) ∧ (v3_1 + 1) < (L : Int)) ∧
            ((0 ≤ (v3_1 + 2) ∧ (v3_1 + 2) < (L : Int)) ∧
            ((0 ≤ (v3_1 + 3) ∧ (v3_1 + 3) < (L : Int)) ∧
            ((rg (sc xs (v3_1 + 3).toNat)) ∧
            (((sc xs (v3_1 + 3).toNat) = 0 →
              (vc_X9_drops σ1 (sc xs (v3_1 + 1).toNat) (sc xs (v3_1 + 2).toNat) 0 (fun (z212 : Int) (σ212 : GS) =>
                ((sc xs (v3_1 + 3).toNat) = 0 →
                (vc_X10_drops σ212 (sc xs (v3_1 + 1).toNat) (sc xs (v3_1 + 2).toNat) 0 (fun (z214 : Int) =>
                  (rg z212) ∧
                ((rg z214) ∧
                ((z212 = z214 →
                  (∃ n' : Nat, n' < n1 ∧ I1 n' (v3_1 + 4) σ212)) ∧
                (¬ z212 = z214 →
                  (False))))))) ∧
              (¬ (sc xs (v3_1 + 3).toNat) = 0 →
                (vc_X10_drops σ212 (sc xs (v3_1 + 1).toNat) (sc xs (v3_1 + 2).toNat) 1 (fun (z220 : Int) =>
                  (rg z212) ∧
                ((rg z220) ∧
                ((z212 = z220 →
                  (∃ n' : Nat, n' < n1 ∧ I1 n' (v3_1 + 4) σ212)) ∧
                (¬ z212 = z220 →
                  (False)))))))))) ∧
            (¬ (sc xs (v3_1 + 3).toNat) = 0 →
              (vc_X9_drops σ1 (sc xs (v3_1 + 1).toNat) (sc xs (v3_1 + 2).toNat) 1 (fun (z226 : Int) (σ226 : GS) =>
                ((sc xs (v3_1 + 3).toNat) = 0 →
                (vc_X10_drops σ226 (sc xs (v3_1 + 1).toNat) (sc xs (v3_1 + 2).toNat) 0 (fun (z228 : Int) =>
                  (rg z226) ∧
                ((rg z228) ∧
                ((z226 = z228 →
                  (∃ n' : Nat, n' < n1 ∧ I1 n' (v3_1 + 4) σ226)) ∧
                (¬ z226 = z228 →
                  (False))))))) ∧
              (¬ (sc xs (v3_1 + 3).toNat) = 0 →
                (vc_X10_drops σ226 (sc xs (v3_1 + 1).toNat) (sc xs (v3_1 + 2).toNat) 1 (fun (z234 : Int) =>
                  (rg z226) ∧
                ((rg z234) ∧
                ((z226 = z234 →
                  (∃ n' : Nat, n' < n1 ∧ I1 n' (v3_1 + 4) σ226)) ∧
                (¬ z226 = z234 →
                  (False)))))))))))))))) ∧
        (((sc xs v3_1.toNat) % 32) = 22 →
          ((0 ≤ (v3_1 + 1) ∧ (v3_1 + 1) < (L : Int)) ∧
            ((0 ≤ (v3_1 + 2) ∧ (v3_1 + 2) < (L : Int)) ∧
            (vc_X9_seed σ1 (jn (sc xs (v3_1 + 1).toNat) (sc xs (v3_1 + 2).toNat)) (fun (z242 : Int) (σ242 : GS) =>
              vc_X10_seed σ242 (jn (sc xs (v3_1 + 1).toNat) (sc xs (v3_1 + 2).toNat)) (fun (z243 : Int) (σ243 : GS) =>
              (rg (lc z242 z243)) ∧
            (((lc z242 z243) = 0 →
              (∃ n' : Nat, n' < n1 ∧ I1 n' (v3_1 + 4) σ243)) ∧
            (¬ (lc z242 z243) = 0 →
              (False))))))))) ∧
        (((sc xs v3_1.toNat) % 32) = 23 →
          ((0 ≤ (v3_1 + 1) ∧ (v3_1 + 1) < (L : Int)) ∧
            (vc_X9_years σ1 (sc xs (v3_1 + 1).toNat) (fun (z249 : Int) (σ249 : GS) =>
              vc_X10_years σ249 (sc xs (v3_1 + 1).toNat) (fun (z250 : Int) (σ250 : GS) =>
              (rg z249) ∧
            ((rg z250) ∧
            ((z249 = z250 →
              (∃ n' : Nat, n' < n1 ∧ I1 n' (v3_1 + 4) σ250)) ∧
            (¬ z249 = z250 →
              (False))))))))) ∧
        (((sc xs v3_1.toNat) % 32) = 24 →
          ((0 ≤ (v3_1 + 1) ∧ (v3_1 + 1) < (L : Int)) ∧
            (vc_X9_keep σ1 (sc xs (v3_1 + 1).toNat) (fun (z257 : Int) (σ257 : GS) =>
              vc_X10_keep σ257 (sc xs (v3_1 + 1).toNat) (fun (z258 : Int) (σ258 : GS) =>
              (rg z257) ∧
            ((rg z258) ∧
            ((z257 = z258 →
              (∃ n' : Nat, n' < n1 ∧ I1 n' (v3_1 + 4) σ258)) ∧
            (¬ z257 = z258 →
              (False))))))))) ∧
        (((sc xs v3_1.toNat) % 32) = 25 →
          ((0 ≤ (v3_1 + 1) ∧ (v3_1 + 1) < (L : Int)) ∧
            (vc_X9_again σ1 (sc xs (v3_1 + 1).toNat) (fun (z265 : Int) (σ265 : GS) =>
              vc_X10_again σ265 (sc xs (v3_1 + 1).toNat) (fun (z266 : Int) (σ266 : GS) =>
              (rg z265) ∧
            ((rg z266) ∧
            ((z265 = z266 →
              (∃ n' : Nat, n' < n1 ∧ I1 n' (v3_1 + 4) σ266)) ∧
            (¬ z265 = z266 →
              (False))))))))) ∧
        (((sc xs v3_1.toNat) % 32) = 26 →
          ((0 ≤ (v3_1 + 1) ∧ (v3_1 + 1) < (L : Int)) ∧
            (vc_X9_count σ1 (sc xs (v3_1 + 1).toNat) (fun (z273 : Int) (σ273 : GS) =>
              vc_X10_count σ273 (sc xs (v3_1 + 1).toNat) (fun (z274 : Int) =>
              (rg z273) ∧
            ((rg z274) ∧
            ((z273 = z274 →
              (∃ n' : Nat, n' < n1 ∧ I1 n' (v3_1 + 4) σ273)) ∧
            (¬ z273 = z274 →
              (False))))))))))))))))
set_option maxHeartbeats 4000000 in
set_option maxRecDepth 10000 in
theorem m_law {p : Program} (l : Launch) {e : Env} {s : State} {m : MethodId} {b L : Nat} {xs : Nat → Int32} {below : List Frame} {meth : Method} {c : Code} {ad : Nat → Nat} {D : va_G} {cI cZ cG : ClassId} (hI : Ij ad) {σ : GS} (C : Cx p s m #[Value.ref b] meth c ad D cI cZ cG (fun q => s.heap.size ≤ q) cL_law 4 RL ret) (hX : va_X b L xs s s.heap) (hbl : b < s.heap.size) (hL31 : L < 2147483648) (h : vc_law L xs σ) : V p l e room_1 s m #[Value.ref b] below meth c ad D cI cZ cG (fun q => s.heap.size ≤ q) 4 600000 7302250 (lw_Z below #[Value.ref b] s) σ 16 [(0, .ref b), (1, .ref (ad 0)), (2, .ref (ad 51))] [] := by
  unfold vc_law at h
  have hbA : ¬ (fun q => s.heap.size ≤ q) b := Nat.not_le.mpr hbl
  refine x_iconst (q := 17) (z := 0) C dL_law_16 rfl rfl ?_
  refine x_istore_n (q := 18) (i := 3) (lv' := [(0, .ref b), (1, .ref (ad 0)), (2, .ref (ad 51)), (3, .int (iI 0))]) C dL_law_17 rfl (Nat.le_of_ble_eq_true rfl) [1, 2, 3, 0] rfl rfl ?_
  obtain ⟨I1, ⟨n01, h01⟩, hs1⟩ := h
  have L1 : ∀ (n1 : Nat) (v3_1 : Int) (σ1 : GS), I1 n1 v3_1 σ1 → V p l e room_1 s m #[Value.ref b] below meth c ad D cI cZ cG (fun q => s.heap.size ≤ q) 4 600000 7302250 (lw_Z below #[Value.ref b] s) σ1 18 [(0, .ref b), (1, .ref (ad 0)), (2, .ref (ad 51)), (3, .int (iI v3_1))] [] := by
    intro n1
    induction n1 using Nat.strongRecOn with
    | ind n1 ih1 =>
      intro v3_1 σ1 h
      have h := hs1 n1 v3_1 σ1 h
      refine x_iload_n (q := 19) (i := 3) C dL_law_18 rfl 3 rfl rfl ?_
      refine x_aload_n (q := 20) (i := 0) C dL_law_19 rfl 0 rfl rfl ?_
      refine x_slen (q := 21) C hX hbl hbA dL_law_20 rfl ?_
      refine x_iconst (q := 22) (z := 4) C dL_law_21 rfl rfl ?_
      refine x_isub (q := 23) C dL_law_22  rfl ?_
      obtain ⟨o2, h⟩ := h
      obtain ⟨o3, h⟩ := h
      refine x_icmp_gt (q := 26) (tgt := 976) C dL_law_23 rfl ⟨o2, o3⟩ rfl (fun c4 => ?_) (fun c4 => ?_)
      · have h := h.1 c4
        refine x_iconst (q := 977) (z := 1) C dL_law_976 rfl rfl ?_
        exact x_lawret C dL_law_977
      · have h := h.2 c4
        refine x_aload_n (q := 27) (i := 0) C dL_law_26 rfl 0 rfl rfl ?_
        refine x_iload_n (q := 28) (i := 3) C dL_law_27 rfl 3 rfl rfl ?_
        obtain ⟨o5, h⟩ := h
        refine x_sld (q := 29) C hX hbl hbA dL_law_28 o5 hL31 rfl ?_
        refine x_bipush (q := 31) (z := 31) C dL_law_29 rfl rfl ?_
        refine x_iand31 (q := 32) C dL_law_31  rfl ?_
        obtain ⟨o6, h⟩ := h
        refine x_table C dL_law_32 o6 970 rfl [156, 179, 192, 205, 218, 281, 314, 357, 380, 403, 416, 429, 442, 465, 498, 531, 594, 637, 650, 673, 722, 765, 824, 878, 901, 924, 947] rfl rfl (fun c0 => ?_) (fun i t ht ha => ?_)
        · have h := h.1 c0
          refine x_iinc (q := 973) (z' := v3_1 + 4) (lv' := [(0, .ref b), (1, .ref (ad 0)), (2, .ref (ad 51)), (3, .int (iI (v3_1 + 4)))]) C dL_law_970 3 rfl rfl (Nat.le_of_ble_eq_true rfl) [1, 2, 3, 0] rfl rfl ?_
          refine x_goto (tgt := 18) C dL_law_973 rfl ?_
          obtain ⟨n7, hl8, h⟩ := h
          refine x_sub [0, 1, 2, 3] rfl ?_
          exact ih1 n7 hl8 _ _ h
        · rcases i with _ | _ | _ | _ | _ | _ | _ | _ | _ | _ | _ | _ | _ | _ | _ | _ | _ | _ | _ | _ | _ | _ | _ | _ | _ | _ | _ | i
          · cases ht
            have h := h.2.1 (by omega)
            refine x_aload_n (q := 157) (i := 1) C dL_law_156 rfl 1 rfl rfl ?_
            refine x_aload_n (q := 158) (i := 0) C dL_law_157 rfl 0 rfl rfl ?_
            refine x_iload_n (q := 159) (i := 3) C dL_law_158 rfl 3 rfl rfl ?_
            refine x_iconst (q := 160) (z := 1) C dL_law_159 rfl rfl ?_
            refine x_iadd (q := 161) C dL_law_160  rfl ?_
            obtain ⟨o9, h⟩ := h
            refine x_sld (q := 162) C hX hbl hbA dL_law_161 o9 hL31 rfl ?_
            refine x_virI (q := 165) C (Nat.le_of_ble_eq_true rfl) ly_0 rfl ck_RL_13 vk_X9_write (m_X9_write l hI h) ⟨⟨rfl, rfl⟩, ⟨Nat.le_of_ble_eq_true rfl, Nat.le_of_ble_eq_true rfl⟩, ⟨Nat.le_refl _, Nat.le_refl _⟩⟩ dL_law_162 rfl rfl (Nat.le_of_ble_eq_true rfl) rfl (fun z10 σ10 h => ?_)
            refine x_aload_n (q := 166) (i := 2) C dL_law_165 rfl 2 rfl rfl ?_
            refine x_aload_n (q := 167) (i := 0) C dL_law_166 rfl 0 rfl rfl ?_
            refine x_iload_n (q := 168) (i := 3) C dL_law_167 rfl 3 rfl rfl ?_
            refine x_iconst (q := 169) (z := 1) C dL_law_168 rfl rfl ?_
            refine x_iadd (q := 170) C dL_law_169  rfl ?_
            refine x_sld (q := 171) C hX hbl hbA dL_law_170 o9 hL31 rfl ?_
            refine x_virI (q := 174) C (Nat.le_of_ble_eq_true rfl) ly_51 rfl ck_RL_17 vk_X10_write (m_X10_write l hI h) ⟨⟨rfl, rfl⟩, ⟨Nat.le_of_ble_eq_true rfl, Nat.le_of_ble_eq_true rfl⟩, ⟨Nat.le_refl _, Nat.le_refl _⟩⟩ dL_law_171 rfl rfl (Nat.le_of_ble_eq_true rfl) rfl (fun z11 σ11 h => ?_)
            obtain ⟨o12, h⟩ := h
            obtain ⟨o13, h⟩ := h
            refine x_icmp_eq (q := 177) (tgt := 970) C dL_law_174 rfl ⟨o12, o13⟩ rfl (fun c14 => ?_) (fun c14 => ?_)
            · have h := h.1 c14
              refine x_iinc (q := 973) (z' := v3_1 + 4) (lv' := [(0, .ref b), (1, .ref (ad 0)), (2, .ref (ad 51)), (3, .int (iI (v3_1 + 4)))]) C dL_law_970 3 rfl rfl (Nat.le_of_ble_eq_true rfl) [1, 2, 3, 0] rfl rfl ?_
              refine x_goto (tgt := 18) C dL_law_973 rfl ?_
              obtain ⟨n15, hl16, h⟩ := h
              refine x_sub [0, 1, 2, 3] rfl ?_
              exact ih1 n15 hl16 _ _ h
            · have h := h.2 c14
              refine x_iconst (q := 178) (z := 0) C dL_law_177 rfl rfl ?_
              exact h.elim
          · cases ht
            have h := h.2.2.1 (by omega)
            refine x_aload_n (q := 180) (i := 1) C dL_law_179 rfl 1 rfl rfl ?_
            refine x_virI (q := 183) C (Nat.le_of_ble_eq_true rfl) ly_0 rfl ck_RL_18 vk_X9_wipe (m_X9_wipe l hI h) ⟨⟨rfl, rfl⟩, ⟨Nat.le_of_ble_eq_true rfl, Nat.le_of_ble_eq_true rfl⟩, ⟨Nat.le_refl _, Nat.le_refl _⟩⟩ dL_law_180 rfl rfl (Nat.le_of_ble_eq_true rfl) rfl (fun z17 σ17 h => ?_)
            refine x_aload_n (q := 184) (i := 2) C dL_law_183 rfl 2 rfl rfl ?_
            refine x_virI (q := 187) C (Nat.le_of_ble_eq_true rfl) ly_51 rfl ck_RL_22 vk_X10_wipe (m_X10_wipe l hI h) ⟨⟨rfl, rfl⟩, ⟨Nat.le_of_ble_eq_true rfl, Nat.le_of_ble_eq_true rfl⟩, ⟨Nat.le_refl _, Nat.le_refl _⟩⟩ dL_law_184 rfl rfl (Nat.le_of_ble_eq_true rfl) rfl (fun z18 σ18 h => ?_)
            obtain ⟨o19, h⟩ := h
            obtain ⟨o20, h⟩ := h
            refine x_icmp_eq (q := 190) (tgt := 970) C dL_law_187 rfl ⟨o19, o20⟩ rfl (fun c21 => ?_) (fun c21 => ?_)
            · have h := h.1 c21
              refine x_iinc (q := 973) (z' := v3_1 + 4) (lv' := [(0, .ref b), (1, .ref (ad 0)), (2, .ref (ad 51)), (3, .int (iI (v3_1 + 4)))]) C dL_law_970 3 rfl rfl (Nat.le_of_ble_eq_true rfl) [1, 2, 3, 0] rfl rfl ?_
              refine x_goto (tgt := 18) C dL_law_973 rfl ?_
              obtain ⟨n22, hl23, h⟩ := h
              refine x_sub [0, 1, 2, 3] rfl ?_
              exact ih1 n22 hl23 _ _ h
            · have h := h.2 c21
              refine x_iconst (q := 191) (z := 0) C dL_law_190 rfl rfl ?_
              exact h.elim
          · cases ht
            have h := h.2.2.2.1 (by omega)
            refine x_aload_n (q := 193) (i := 1) C dL_law_192 rfl 1 rfl rfl ?_
            refine x_virI (q := 196) C (Nat.le_of_ble_eq_true rfl) ly_0 rfl ck_RL_23 vk_X9_fault (m_X9_fault l hI h) ⟨⟨rfl, rfl⟩, ⟨Nat.le_of_ble_eq_true rfl, Nat.le_of_ble_eq_true rfl⟩, ⟨Nat.le_refl _, Nat.le_refl _⟩⟩ dL_law_193 rfl rfl (Nat.le_of_ble_eq_true rfl) rfl (fun z24 σ24 h => ?_)
            rw [h.1]
            have h := h.2
            refine x_aload_n (q := 197) (i := 2) C dL_law_196 rfl 2 rfl rfl ?_
            refine x_virI (q := 200) C (Nat.le_of_ble_eq_true rfl) ly_51 rfl ck_RL_26 vk_X10_fault (m_X10_fault l hI h) ⟨⟨rfl, rfl⟩, ⟨Nat.le_of_ble_eq_true rfl, Nat.le_of_ble_eq_true rfl⟩, ⟨Nat.le_refl _, Nat.le_refl _⟩⟩ dL_law_197 rfl rfl (Nat.le_of_ble_eq_true rfl) rfl (fun z25 σ25 h => ?_)
            obtain ⟨o26, h⟩ := h
            obtain ⟨o27, h⟩ := h
            refine x_icmp_eq (q := 203) (tgt := 970) C dL_law_200 rfl ⟨o26, o27⟩ rfl (fun c28 => ?_) (fun c28 => ?_)
            · have h := h.1 c28
              refine x_iinc (q := 973) (z' := v3_1 + 4) (lv' := [(0, .ref b), (1, .ref (ad 0)), (2, .ref (ad 51)), (3, .int (iI (v3_1 + 4)))]) C dL_law_970 3 rfl rfl (Nat.le_of_ble_eq_true rfl) [1, 2, 3, 0] rfl rfl ?_
              refine x_goto (tgt := 18) C dL_law_973 rfl ?_
              obtain ⟨n29, hl30, h⟩ := h
              refine x_sub [0, 1, 2, 3] rfl ?_
              exact ih1 n29 hl30 _ _ h
            · have h := h.2 c28
              refine x_iconst (q := 204) (z := 0) C dL_law_203 rfl rfl ?_
              exact h.elim
          · cases ht
            have h := h.2.2.2.2.1 (by omega)
            refine x_aload_n (q := 206) (i := 1) C dL_law_205 rfl 1 rfl rfl ?_
            refine x_virI (q := 209) C (Nat.le_of_ble_eq_true rfl) ly_0 rfl ck_RL_27 vk_X9_fan (m_X9_fan l hI h) ⟨⟨rfl, rfl⟩, ⟨Nat.le_of_ble_eq_true rfl, Nat.le_of_ble_eq_true rfl⟩, ⟨Nat.le_refl _, Nat.le_refl _⟩⟩ dL_law_206 rfl rfl (Nat.le_of_ble_eq_true rfl) rfl (fun z31 σ31 h => ?_)
            refine x_aload_n (q := 210) (i := 2) C dL_law_209 rfl 2 rfl rfl ?_
            refine x_virI (q := 213) C (Nat.le_of_ble_eq_true rfl) ly_51 rfl ck_RL_30 vk_X10_fan (m_X10_fan l hI h) ⟨⟨rfl, rfl⟩, ⟨Nat.le_of_ble_eq_true rfl, Nat.le_of_ble_eq_true rfl⟩, ⟨Nat.le_refl _, Nat.le_refl _⟩⟩ dL_law_210 rfl rfl (Nat.le_of_ble_eq_true rfl) rfl (fun z32 σ32 h => ?_)
            obtain ⟨o33, h⟩ := h
            obtain ⟨o34, h⟩ := h
            refine x_icmp_eq (q := 216) (tgt := 970) C dL_law_213 rfl ⟨o33, o34⟩ rfl (fun c35 => ?_) (fun c35 => ?_)
            · have h := h.1 c35
              refine x_iinc (q := 973) (z' := v3_1 + 4) (lv' := [(0, .ref b), (1, .ref (ad 0)), (2, .ref (ad 51)), (3, .int (iI (v3_1 + 4)))]) C dL_law_970 3 rfl rfl (Nat.le_of_ble_eq_true rfl) [1, 2, 3, 0] rfl rfl ?_
              refine x_goto (tgt := 18) C dL_law_973 rfl ?_
              obtain ⟨n36, hl37, h⟩ := h
              refine x_sub [0, 1, 2, 3] rfl ?_
              exact ih1 n36 hl37 _ _ h
            · have h := h.2 c35
              refine x_iconst (q := 217) (z := 0) C dL_law_216 rfl rfl ?_
              exact h.elim
          · cases ht
            have h := h.2.2.2.2.2.1 (by omega)
            refine x_aload_n (q := 219) (i := 1) C dL_law_218 rfl 1 rfl rfl ?_
            refine x_aload_n (q := 220) (i := 0) C dL_law_219 rfl 0 rfl rfl ?_
            refine x_iload_n (q := 221) (i := 3) C dL_law_220 rfl 3 rfl rfl ?_
            refine x_iconst (q := 222) (z := 1) C dL_law_221 rfl rfl ?_
            refine x_iadd (q := 223) C dL_law_222  rfl ?_
            obtain ⟨o38, h⟩ := h
            refine x_sld (q := 224) C hX hbl hbA dL_law_223 o38 hL31 rfl ?_
            refine x_aload_n (q := 225) (i := 0) C dL_law_224 rfl 0 rfl rfl ?_
            refine x_iload_n (q := 226) (i := 3) C dL_law_225 rfl 3 rfl rfl ?_
            refine x_iconst (q := 227) (z := 2) C dL_law_226 rfl rfl ?_
            refine x_iadd (q := 228) C dL_law_227  rfl ?_
            obtain ⟨o39, h⟩ := h
            refine x_sld (q := 229) C hX hbl hbA dL_law_228 o39 hL31 rfl ?_
            refine x_i2lr (q := 230) C dL_law_229 rfl ?_
            refine x_bipush (q := 232) (z := 32) C dL_law_230 rfl rfl ?_
            refine x_lshl (q := 233) C dL_law_232 rfl ?_
            refine x_aload_n (q := 234) (i := 0) C dL_law_233 rfl 0 rfl rfl ?_
            refine x_iload_n (q := 235) (i := 3) C dL_law_234 rfl 3 rfl rfl ?_
            refine x_iconst (q := 236) (z := 3) C dL_law_235 rfl rfl ?_
            refine x_iadd (q := 237) C dL_law_236  rfl ?_
            obtain ⟨o40, h⟩ := h
            refine x_sld (q := 238) C hX hbl hbA dL_law_237 o40 hL31 rfl ?_
            refine x_i2lr (q := 239) C dL_law_238 rfl ?_
            refine x_ldc2r (q := 242) (v := 4294967295) C dL_law_239 t5_56 rfl ?_
            refine x_land (q := 243) C dL_law_242 rfl ?_
            refine x_lor (q := 244) C dL_law_243 rfl ?_
            refine x_topl ?_
            refine x_virI (q := 247) C (Nat.le_of_ble_eq_true rfl) ly_0 rfl ck_RL_33 vk_X9_word (m_X9_word l hI h) ⟨⟨rfl, rfl⟩, ⟨Nat.le_of_ble_eq_true rfl, Nat.le_of_ble_eq_true rfl⟩, ⟨Nat.le_refl _, Nat.le_refl _⟩⟩ dL_law_244 rfl rfl (Nat.le_of_ble_eq_true rfl) rfl (fun z41 σ41 h => ?_)
            refine x_aload_n (q := 248) (i := 2) C dL_law_247 rfl 2 rfl rfl ?_
            refine x_aload_n (q := 249) (i := 0) C dL_law_248 rfl 0 rfl rfl ?_
            refine x_iload_n (q := 250) (i := 3) C dL_law_249 rfl 3 rfl rfl ?_
            refine x_iconst (q := 251) (z := 1) C dL_law_250 rfl rfl ?_
            refine x_iadd (q := 252) C dL_law_251  rfl ?_
            refine x_sld (q := 253) C hX hbl hbA dL_law_252 o38 hL31 rfl ?_
            refine x_aload_n (q := 254) (i := 0) C dL_law_253 rfl 0 rfl rfl ?_
            refine x_iload_n (q := 255) (i := 3) C dL_law_254 rfl 3 rfl rfl ?_
            refine x_iconst (q := 256) (z := 2) C dL_law_255 rfl rfl ?_
            refine x_iadd (q := 257) C dL_law_256  rfl ?_
            refine x_sld (q := 258) C hX hbl hbA dL_law_257 o39 hL31 rfl ?_
            refine x_i2lr (q := 259) C dL_law_258 rfl ?_
            refine x_bipush (q := 261) (z := 32) C dL_law_259 rfl rfl ?_
            refine x_lshl (q := 262) C dL_law_261 rfl ?_
            refine x_aload_n (q := 263) (i := 0) C dL_law_262 rfl 0 rfl rfl ?_
            refine x_iload_n (q := 264) (i := 3) C dL_law_263 rfl 3 rfl rfl ?_
            refine x_iconst (q := 265) (z := 3) C dL_law_264 rfl rfl ?_
            refine x_iadd (q := 266) C dL_law_265  rfl ?_
            refine x_sld (q := 267) C hX hbl hbA dL_law_266 o40 hL31 rfl ?_
            refine x_i2lr (q := 268) C dL_law_267 rfl ?_
            refine x_ldc2r (q := 271) (v := 4294967295) C dL_law_268 t5_56 rfl ?_
            refine x_land (q := 272) C dL_law_271 rfl ?_
            refine x_lor (q := 273) C dL_law_272 rfl ?_
            refine x_topl ?_
            refine x_virI (q := 276) C (Nat.le_of_ble_eq_true rfl) ly_51 rfl ck_RL_37 vk_X10_word (m_X10_word l hI h) ⟨⟨rfl, rfl⟩, ⟨Nat.le_of_ble_eq_true rfl, Nat.le_of_ble_eq_true rfl⟩, ⟨Nat.le_refl _, Nat.le_refl _⟩⟩ dL_law_273 rfl rfl (Nat.le_of_ble_eq_true rfl) rfl (fun z42 σ42 h => ?_)
            obtain ⟨o43, h⟩ := h
            obtain ⟨o44, h⟩ := h
            refine x_icmp_eq (q := 279) (tgt := 970) C dL_law_276 rfl ⟨o43, o44⟩ rfl (fun c45 => ?_) (fun c45 => ?_)
            · have h := h.1 c45
              refine x_iinc (q := 973) (z' := v3_1 + 4) (lv' := [(0, .ref b), (1, .ref (ad 0)), (2, .ref (ad 51)), (3, .int (iI (v3_1 + 4)))]) C dL_law_970 3 rfl rfl (Nat.le_of_ble_eq_true rfl) [1, 2, 3, 0] rfl rfl ?_
              refine x_goto (tgt := 18) C dL_law_973 rfl ?_
              obtain ⟨n46, hl47, h⟩ := h
              refine x_sub [0, 1, 2, 3] rfl ?_
              exact ih1 n46 hl47 _ _ h
            · have h := h.2 c45
              refine x_iconst (q := 280) (z := 0) C dL_law_279 rfl rfl ?_
              exact h.elim
          · cases ht
            have h := h.2.2.2.2.2.2.1 (by omega)
            refine x_aload_n (q := 282) (i := 1) C dL_law_281 rfl 1 rfl rfl ?_
            refine x_aload_n (q := 283) (i := 0) C dL_law_282 rfl 0 rfl rfl ?_
            refine x_iload_n (q := 284) (i := 3) C dL_law_283 rfl 3 rfl rfl ?_
            refine x_iconst (q := 285) (z := 1) C dL_law_284 rfl rfl ?_
            refine x_iadd (q := 286) C dL_law_285  rfl ?_
            obtain ⟨o48, h⟩ := h
            refine x_sld (q := 287) C hX hbl hbA dL_law_286 o48 hL31 rfl ?_
            refine x_aload_n (q := 288) (i := 0) C dL_law_287 rfl 0 rfl rfl ?_
            refine x_iload_n (q := 289) (i := 3) C dL_law_288 rfl 3 rfl rfl ?_
            refine x_iconst (q := 290) (z := 2) C dL_law_289 rfl rfl ?_
            refine x_iadd (q := 291) C dL_law_290  rfl ?_
            obtain ⟨o49, h⟩ := h
            refine x_sld (q := 292) C hX hbl hbA dL_law_291 o49 hL31 rfl ?_
            refine x_virI (q := 295) C (Nat.le_of_ble_eq_true rfl) ly_0 rfl ck_RL_38 vk_X9_blade (m_X9_blade l hI h) ⟨⟨rfl, rfl⟩, ⟨Nat.le_of_ble_eq_true rfl, Nat.le_of_ble_eq_true rfl⟩, ⟨Nat.le_refl _, Nat.le_refl _⟩⟩ dL_law_292 rfl rfl (Nat.le_of_ble_eq_true rfl) rfl (fun z50 σ50 h => ?_)
            refine x_aload_n (q := 296) (i := 2) C dL_law_295 rfl 2 rfl rfl ?_
            refine x_aload_n (q := 297) (i := 0) C dL_law_296 rfl 0 rfl rfl ?_
            refine x_iload_n (q := 298) (i := 3) C dL_law_297 rfl 3 rfl rfl ?_
            refine x_iconst (q := 299) (z := 1) C dL_law_298 rfl rfl ?_
            refine x_iadd (q := 300) C dL_law_299  rfl ?_
            refine x_sld (q := 301) C hX hbl hbA dL_law_300 o48 hL31 rfl ?_
            refine x_aload_n (q := 302) (i := 0) C dL_law_301 rfl 0 rfl rfl ?_
            refine x_iload_n (q := 303) (i := 3) C dL_law_302 rfl 3 rfl rfl ?_
            refine x_iconst (q := 304) (z := 2) C dL_law_303 rfl rfl ?_
            refine x_iadd (q := 305) C dL_law_304  rfl ?_
            refine x_sld (q := 306) C hX hbl hbA dL_law_305 o49 hL31 rfl ?_
            refine x_virI (q := 309) C (Nat.le_of_ble_eq_true rfl) ly_51 rfl ck_RL_42 vk_X10_blade (m_X10_blade l hI h) ⟨⟨rfl, rfl⟩, ⟨Nat.le_of_ble_eq_true rfl, Nat.le_of_ble_eq_true rfl⟩, ⟨Nat.le_refl _, Nat.le_refl _⟩⟩ dL_law_306 rfl rfl (Nat.le_of_ble_eq_true rfl) rfl (fun z51 σ51 h => ?_)
            rw [h.1]
            have h := h.2
            obtain ⟨o52, h⟩ := h
            obtain ⟨o53, h⟩ := h
            refine x_icmp_eq (q := 312) (tgt := 970) C dL_law_309 rfl ⟨o52, o53⟩ rfl (fun c54 => ?_) (fun c54 => ?_)
            · have h := h.1 c54
              refine x_iinc (q := 973) (z' := v3_1 + 4) (lv' := [(0, .ref b), (1, .ref (ad 0)), (2, .ref (ad 51)), (3, .int (iI (v3_1 + 4)))]) C dL_law_970 3 rfl rfl (Nat.le_of_ble_eq_true rfl) [1, 2, 3, 0] rfl rfl ?_
              refine x_goto (tgt := 18) C dL_law_973 rfl ?_
              obtain ⟨n55, hl56, h⟩ := h
              refine x_sub [0, 1, 2, 3] rfl ?_
              exact ih1 n55 hl56 _ _ h
            · have h := h.2 c54
              refine x_iconst (q := 313) (z := 0) C dL_law_312 rfl rfl ?_
              exact h.elim
          · cases ht
            have h := h.2.2.2.2.2.2.2.1 (by omega)
            refine x_aload_n (q := 315) (i := 1) C dL_law_314 rfl 1 rfl rfl ?_
            refine x_aload_n (q := 316) (i := 0) C dL_law_315 rfl 0 rfl rfl ?_
            refine x_iload_n (q := 317) (i := 3) C dL_law_316 rfl 3 rfl rfl ?_
            refine x_iconst (q := 318) (z := 1) C dL_law_317 rfl rfl ?_
            refine x_iadd (q := 319) C dL_law_318  rfl ?_
            obtain ⟨o57, h⟩ := h
            refine x_sld (q := 320) C hX hbl hbA dL_law_319 o57 hL31 rfl ?_
            refine x_aload_n (q := 321) (i := 0) C dL_law_320 rfl 0 rfl rfl ?_
            refine x_iload_n (q := 322) (i := 3) C dL_law_321 rfl 3 rfl rfl ?_
            refine x_iconst (q := 323) (z := 2) C dL_law_322 rfl rfl ?_
            refine x_iadd (q := 324) C dL_law_323  rfl ?_
            obtain ⟨o58, h⟩ := h
            refine x_sld (q := 325) C hX hbl hbA dL_law_324 o58 hL31 rfl ?_
            refine x_aload_n (q := 326) (i := 0) C dL_law_325 rfl 0 rfl rfl ?_
            refine x_iload_n (q := 327) (i := 3) C dL_law_326 rfl 3 rfl rfl ?_
            refine x_iconst (q := 328) (z := 3) C dL_law_327 rfl rfl ?_
            refine x_iadd (q := 329) C dL_law_328  rfl ?_
            obtain ⟨o59, h⟩ := h
            refine x_sld (q := 330) C hX hbl hbA dL_law_329 o59 hL31 rfl ?_
            refine x_virI (q := 333) C (Nat.le_of_ble_eq_true rfl) ly_0 rfl ck_RL_43 vk_X9_look (m_X9_look l hI h) ⟨⟨rfl, rfl⟩, ⟨Nat.le_of_ble_eq_true rfl, Nat.le_of_ble_eq_true rfl⟩, ⟨Nat.le_refl _, Nat.le_refl _⟩⟩ dL_law_330 rfl rfl (Nat.le_of_ble_eq_true rfl) rfl (fun z60 σ60 h => ?_)
            refine x_aload_n (q := 334) (i := 2) C dL_law_333 rfl 2 rfl rfl ?_
            refine x_aload_n (q := 335) (i := 0) C dL_law_334 rfl 0 rfl rfl ?_
            refine x_iload_n (q := 336) (i := 3) C dL_law_335 rfl 3 rfl rfl ?_
            refine x_iconst (q := 337) (z := 1) C dL_law_336 rfl rfl ?_
            refine x_iadd (q := 338) C dL_law_337  rfl ?_
            refine x_sld (q := 339) C hX hbl hbA dL_law_338 o57 hL31 rfl ?_
            refine x_aload_n (q := 340) (i := 0) C dL_law_339 rfl 0 rfl rfl ?_
            refine x_iload_n (q := 341) (i := 3) C dL_law_340 rfl 3 rfl rfl ?_
            refine x_iconst (q := 342) (z := 2) C dL_law_341 rfl rfl ?_
            refine x_iadd (q := 343) C dL_law_342  rfl ?_
            refine x_sld (q := 344) C hX hbl hbA dL_law_343 o58 hL31 rfl ?_
            refine x_aload_n (q := 345) (i := 0) C dL_law_344 rfl 0 rfl rfl ?_
            refine x_iload_n (q := 346) (i := 3) C dL_law_345 rfl 3 rfl rfl ?_
            refine x_iconst (q := 347) (z := 3) C dL_law_346 rfl rfl ?_
            refine x_iadd (q := 348) C dL_law_347  rfl ?_
            refine x_sld (q := 349) C hX hbl hbA dL_law_348 o59 hL31 rfl ?_
            refine x_virI (q := 352) C (Nat.le_of_ble_eq_true rfl) ly_51 rfl ck_RL_47 vk_X10_look (m_X10_look l hI h) ⟨⟨rfl, rfl⟩, ⟨Nat.le_of_ble_eq_true rfl, Nat.le_of_ble_eq_true rfl⟩, ⟨Nat.le_refl _, Nat.le_refl _⟩⟩ dL_law_349 rfl rfl (Nat.le_of_ble_eq_true rfl) rfl (fun z61 σ61 h => ?_)
            rw [h.1]
            have h := h.2
            obtain ⟨o62, h⟩ := h
            obtain ⟨o63, h⟩ := h
            refine x_icmp_eq (q := 355) (tgt := 970) C dL_law_352 rfl ⟨o62, o63⟩ rfl (fun c64 => ?_) (fun c64 => ?_)
            · have h := h.1 c64
              refine x_iinc (q := 973) (z' := v3_1 + 4) (lv' := [(0, .ref b), (1, .ref (ad 0)), (2, .ref (ad 51)), (3, .int (iI (v3_1 + 4)))]) C dL_law_970 3 rfl rfl (Nat.le_of_ble_eq_true rfl) [1, 2, 3, 0] rfl rfl ?_
              refine x_goto (tgt := 18) C dL_law_973 rfl ?_
              obtain ⟨n65, hl66, h⟩ := h
              refine x_sub [0, 1, 2, 3] rfl ?_
              exact ih1 n65 hl66 _ _ h
            · have h := h.2 c64
              refine x_iconst (q := 356) (z := 0) C dL_law_355 rfl rfl ?_
              exact h.elim
          · cases ht
            have h := h.2.2.2.2.2.2.2.2.1 (by omega)
            refine x_aload_n (q := 358) (i := 1) C dL_law_357 rfl 1 rfl rfl ?_
            refine x_aload_n (q := 359) (i := 0) C dL_law_358 rfl 0 rfl rfl ?_
            refine x_iload_n (q := 360) (i := 3) C dL_law_359 rfl 3 rfl rfl ?_
            refine x_iconst (q := 361) (z := 1) C dL_law_360 rfl rfl ?_
            refine x_iadd (q := 362) C dL_law_361  rfl ?_
            obtain ⟨o67, h⟩ := h
            refine x_sld (q := 363) C hX hbl hbA dL_law_362 o67 hL31 rfl ?_
            refine x_virI (q := 366) C (Nat.le_of_ble_eq_true rfl) ly_0 rfl ck_RL_48 vk_X9_spread (m_X9_spread l hI h) ⟨⟨rfl, rfl⟩, ⟨Nat.le_of_ble_eq_true rfl, Nat.le_of_ble_eq_true rfl⟩, ⟨Nat.le_refl _, Nat.le_refl _⟩⟩ dL_law_363 rfl rfl (Nat.le_of_ble_eq_true rfl) rfl (fun z68 σ68 h => ?_)
            refine x_aload_n (q := 367) (i := 2) C dL_law_366 rfl 2 rfl rfl ?_
            refine x_aload_n (q := 368) (i := 0) C dL_law_367 rfl 0 rfl rfl ?_
            refine x_iload_n (q := 369) (i := 3) C dL_law_368 rfl 3 rfl rfl ?_
            refine x_iconst (q := 370) (z := 1) C dL_law_369 rfl rfl ?_
            refine x_iadd (q := 371) C dL_law_370  rfl ?_
            refine x_sld (q := 372) C hX hbl hbA dL_law_371 o67 hL31 rfl ?_
            refine x_virI (q := 375) C (Nat.le_of_ble_eq_true rfl) ly_51 rfl ck_RL_51 vk_X10_spread (m_X10_spread l hI h) ⟨⟨rfl, rfl⟩, ⟨Nat.le_of_ble_eq_true rfl, Nat.le_of_ble_eq_true rfl⟩, ⟨Nat.le_refl _, Nat.le_refl _⟩⟩ dL_law_372 rfl rfl (Nat.le_of_ble_eq_true rfl) rfl (fun z69 σ69 h => ?_)
            obtain ⟨o70, h⟩ := h
            obtain ⟨o71, h⟩ := h
            refine x_icmp_eq (q := 378) (tgt := 970) C dL_law_375 rfl ⟨o70, o71⟩ rfl (fun c72 => ?_) (fun c72 => ?_)
            · have h := h.1 c72
              refine x_iinc (q := 973) (z' := v3_1 + 4) (lv' := [(0, .ref b), (1, .ref (ad 0)), (2, .ref (ad 51)), (3, .int (iI (v3_1 + 4)))]) C dL_law_970 3 rfl rfl (Nat.le_of_ble_eq_true rfl) [1, 2, 3, 0] rfl rfl ?_
              refine x_goto (tgt := 18) C dL_law_973 rfl ?_
              obtain ⟨n73, hl74, h⟩ := h
              refine x_sub [0, 1, 2, 3] rfl ?_
              exact ih1 n73 hl74 _ _ h
            · have h := h.2 c72
              refine x_iconst (q := 379) (z := 0) C dL_law_378 rfl rfl ?_
              exact h.elim
          · cases ht
            have h := h.2.2.2.2.2.2.2.2.2.1 (by omega)
            refine x_aload_n (q := 381) (i := 1) C dL_law_380 rfl 1 rfl rfl ?_
            refine x_aload_n (q := 382) (i := 0) C dL_law_381 rfl 0 rfl rfl ?_
            refine x_iload_n (q := 383) (i := 3) C dL_law_382 rfl 3 rfl rfl ?_
            refine x_iconst (q := 384) (z := 1) C dL_law_383 rfl rfl ?_
            refine x_iadd (q := 385) C dL_law_384  rfl ?_
            obtain ⟨o75, h⟩ := h
            refine x_sld (q := 386) C hX hbl hbA dL_law_385 o75 hL31 rfl ?_
            refine x_virI (q := 389) C (Nat.le_of_ble_eq_true rfl) ly_0 rfl ck_RL_52 vk_X9_fold (m_X9_fold l hI h) ⟨⟨rfl, rfl⟩, ⟨Nat.le_of_ble_eq_true rfl, Nat.le_of_ble_eq_true rfl⟩, ⟨Nat.le_refl _, Nat.le_refl _⟩⟩ dL_law_386 rfl rfl (Nat.le_of_ble_eq_true rfl) rfl (fun z76 σ76 h => ?_)
            refine x_aload_n (q := 390) (i := 2) C dL_law_389 rfl 2 rfl rfl ?_
            refine x_aload_n (q := 391) (i := 0) C dL_law_390 rfl 0 rfl rfl ?_
            refine x_iload_n (q := 392) (i := 3) C dL_law_391 rfl 3 rfl rfl ?_
            refine x_iconst (q := 393) (z := 1) C dL_law_392 rfl rfl ?_
            refine x_iadd (q := 394) C dL_law_393  rfl ?_
            refine x_sld (q := 395) C hX hbl hbA dL_law_394 o75 hL31 rfl ?_
            refine x_virI (q := 398) C (Nat.le_of_ble_eq_true rfl) ly_51 rfl ck_RL_55 vk_X10_fold (m_X10_fold l hI h) ⟨⟨rfl, rfl⟩, ⟨Nat.le_of_ble_eq_true rfl, Nat.le_of_ble_eq_true rfl⟩, ⟨Nat.le_refl _, Nat.le_refl _⟩⟩ dL_law_395 rfl rfl (Nat.le_of_ble_eq_true rfl) rfl (fun z77 σ77 h => ?_)
            obtain ⟨o78, h⟩ := h
            obtain ⟨o79, h⟩ := h
            refine x_icmp_eq (q := 401) (tgt := 970) C dL_law_398 rfl ⟨o78, o79⟩ rfl (fun c80 => ?_) (fun c80 => ?_)
            · have h := h.1 c80
              refine x_iinc (q := 973) (z' := v3_1 + 4) (lv' := [(0, .ref b), (1, .ref (ad 0)), (2, .ref (ad 51)), (3, .int (iI (v3_1 + 4)))]) C dL_law_970 3 rfl rfl (Nat.le_of_ble_eq_true rfl) [1, 2, 3, 0] rfl rfl ?_
              refine x_goto (tgt := 18) C dL_law_973 rfl ?_
              obtain ⟨n81, hl82, h⟩ := h
              refine x_sub [0, 1, 2, 3] rfl ?_
              exact ih1 n81 hl82 _ _ h
            · have h := h.2 c80
              refine x_iconst (q := 402) (z := 0) C dL_law_401 rfl rfl ?_
              exact h.elim
          · cases ht
            have h := h.2.2.2.2.2.2.2.2.2.2.1 (by omega)
            refine x_aload_n (q := 404) (i := 1) C dL_law_403 rfl 1 rfl rfl ?_
            refine x_virI (q := 407) C (Nat.le_of_ble_eq_true rfl) ly_0 rfl ck_RL_56 vk_X9_fling (m_X9_fling l hI h) ⟨⟨rfl, rfl⟩, ⟨Nat.le_of_ble_eq_true rfl, Nat.le_of_ble_eq_true rfl⟩, ⟨Nat.le_refl _, Nat.le_refl _⟩⟩ dL_law_404 rfl rfl (Nat.le_of_ble_eq_true rfl) rfl (fun z83 σ83 h => ?_)
            refine x_aload_n (q := 408) (i := 2) C dL_law_407 rfl 2 rfl rfl ?_
            refine x_virI (q := 411) C (Nat.le_of_ble_eq_true rfl) ly_51 rfl ck_RL_59 vk_X10_fling (m_X10_fling l hI h) ⟨⟨rfl, rfl⟩, ⟨Nat.le_of_ble_eq_true rfl, Nat.le_of_ble_eq_true rfl⟩, ⟨Nat.le_refl _, Nat.le_refl _⟩⟩ dL_law_408 rfl rfl (Nat.le_of_ble_eq_true rfl) rfl (fun z84 σ84 h => ?_)
            obtain ⟨o85, h⟩ := h
            obtain ⟨o86, h⟩ := h
            refine x_icmp_eq (q := 414) (tgt := 970) C dL_law_411 rfl ⟨o85, o86⟩ rfl (fun c87 => ?_) (fun c87 => ?_)
            · have h := h.1 c87
              refine x_iinc (q := 973) (z' := v3_1 + 4) (lv' := [(0, .ref b), (1, .ref (ad 0)), (2, .ref (ad 51)), (3, .int (iI (v3_1 + 4)))]) C dL_law_970 3 rfl rfl (Nat.le_of_ble_eq_true rfl) [1, 2, 3, 0] rfl rfl ?_
              refine x_goto (tgt := 18) C dL_law_973 rfl ?_
              obtain ⟨n88, hl89, h⟩ := h
              refine x_sub [0, 1, 2, 3] rfl ?_
              exact ih1 n88 hl89 _ _ h
            · have h := h.2 c87
              refine x_iconst (q := 415) (z := 0) C dL_law_414 rfl rfl ?_
              exact h.elim
          · cases ht
            have h := h.2.2.2.2.2.2.2.2.2.2.2.1 (by omega)
            refine x_aload_n (q := 417) (i := 1) C dL_law_416 rfl 1 rfl rfl ?_
            refine x_virI (q := 420) C (Nat.le_of_ble_eq_true rfl) ly_0 rfl ck_RL_60 vk_X9_snap (m_X9_snap l hI h) ⟨⟨rfl, rfl⟩, ⟨Nat.le_of_ble_eq_true rfl, Nat.le_of_ble_eq_true rfl⟩, ⟨Nat.le_refl _, Nat.le_refl _⟩⟩ dL_law_417 rfl rfl (Nat.le_of_ble_eq_true rfl) rfl (fun z90 σ90 h => ?_)
            refine x_aload_n (q := 421) (i := 2) C dL_law_420 rfl 2 rfl rfl ?_
            refine x_virI (q := 424) C (Nat.le_of_ble_eq_true rfl) ly_51 rfl ck_RL_63 vk_X10_snap (m_X10_snap l hI h) ⟨⟨rfl, rfl⟩, ⟨Nat.le_of_ble_eq_true rfl, Nat.le_of_ble_eq_true rfl⟩, ⟨Nat.le_refl _, Nat.le_refl _⟩⟩ dL_law_421 rfl rfl (Nat.le_of_ble_eq_true rfl) rfl (fun z91 σ91 h => ?_)
            obtain ⟨o92, h⟩ := h
            obtain ⟨o93, h⟩ := h
            refine x_icmp_eq (q := 427) (tgt := 970) C dL_law_424 rfl ⟨o92, o93⟩ rfl (fun c94 => ?_) (fun c94 => ?_)
            · have h := h.1 c94
              refine x_iinc (q := 973) (z' := v3_1 + 4) (lv' := [(0, .ref b), (1, .ref (ad 0)), (2, .ref (ad 51)), (3, .int (iI (v3_1 + 4)))]) C dL_law_970 3 rfl rfl (Nat.le_of_ble_eq_true rfl) [1, 2, 3, 0] rfl rfl ?_
              refine x_goto (tgt := 18) C dL_law_973 rfl ?_
              obtain ⟨n95, hl96, h⟩ := h
              refine x_sub [0, 1, 2, 3] rfl ?_
              exact ih1 n95 hl96 _ _ h
            · have h := h.2 c94
              refine x_iconst (q := 428) (z := 0) C dL_law_427 rfl rfl ?_
              exact h.elim
          · cases ht
            have h := h.2.2.2.2.2.2.2.2.2.2.2.2.1 (by omega)
            refine x_aload_n (q := 430) (i := 1) C dL_law_429 rfl 1 rfl rfl ?_
            refine x_virI (q := 433) C (Nat.le_of_ble_eq_true rfl) ly_0 rfl ck_RL_64 vk_X9_undo (m_X9_undo l hI h) ⟨⟨rfl, rfl⟩, ⟨Nat.le_of_ble_eq_true rfl, Nat.le_of_ble_eq_true rfl⟩, ⟨Nat.le_refl _, Nat.le_refl _⟩⟩ dL_law_430 rfl rfl (Nat.le_of_ble_eq_true rfl) rfl (fun z97 σ97 h => ?_)
            refine x_aload_n (q := 434) (i := 2) C dL_law_433 rfl 2 rfl rfl ?_
            refine x_virI (q := 437) C (Nat.le_of_ble_eq_true rfl) ly_51 rfl ck_RL_67 vk_X10_undo (m_X10_undo l hI h) ⟨⟨rfl, rfl⟩, ⟨Nat.le_of_ble_eq_true rfl, Nat.le_of_ble_eq_true rfl⟩, ⟨Nat.le_refl _, Nat.le_refl _⟩⟩ dL_law_434 rfl rfl (Nat.le_of_ble_eq_true rfl) rfl (fun z98 σ98 h => ?_)
            obtain ⟨o99, h⟩ := h
            obtain ⟨o100, h⟩ := h
            refine x_icmp_eq (q := 440) (tgt := 970) C dL_law_437 rfl ⟨o99, o100⟩ rfl (fun c101 => ?_) (fun c101 => ?_)
            · have h := h.1 c101
              refine x_iinc (q := 973) (z' := v3_1 + 4) (lv' := [(0, .ref b), (1, .ref (ad 0)), (2, .ref (ad 51)), (3, .int (iI (v3_1 + 4)))]) C dL_law_970 3 rfl rfl (Nat.le_of_ble_eq_true rfl) [1, 2, 3, 0] rfl rfl ?_
              refine x_goto (tgt := 18) C dL_law_973 rfl ?_
              obtain ⟨n102, hl103, h⟩ := h
              refine x_sub [0, 1, 2, 3] rfl ?_
              exact ih1 n102 hl103 _ _ h
            · have h := h.2 c101
              refine x_iconst (q := 441) (z := 0) C dL_law_440 rfl rfl ?_
              exact h.elim
          · cases ht
            have h := h.2.2.2.2.2.2.2.2.2.2.2.2.2.1 (by omega)
            refine x_aload_n (q := 443) (i := 1) C dL_law_442 rfl 1 rfl rfl ?_
            refine x_aload_n (q := 444) (i := 0) C dL_law_443 rfl 0 rfl rfl ?_
            refine x_iload_n (q := 445) (i := 3) C dL_law_444 rfl 3 rfl rfl ?_
            refine x_iconst (q := 446) (z := 1) C dL_law_445 rfl rfl ?_
            refine x_iadd (q := 447) C dL_law_446  rfl ?_
            obtain ⟨o104, h⟩ := h
            refine x_sld (q := 448) C hX hbl hbA dL_law_447 o104 hL31 rfl ?_
            refine x_virI (q := 451) C (Nat.le_of_ble_eq_true rfl) ly_0 rfl ck_RL_68 vk_X9_reads (m_X9_reads l hI h) ⟨⟨rfl, rfl⟩, ⟨Nat.le_of_ble_eq_true rfl, Nat.le_of_ble_eq_true rfl⟩, ⟨Nat.le_refl _, Nat.le_refl _⟩⟩ dL_law_448 rfl rfl (Nat.le_of_ble_eq_true rfl) rfl (fun z105 σ105 h => ?_)
            refine x_aload_n (q := 452) (i := 2) C dL_law_451 rfl 2 rfl rfl ?_
            refine x_aload_n (q := 453) (i := 0) C dL_law_452 rfl 0 rfl rfl ?_
            refine x_iload_n (q := 454) (i := 3) C dL_law_453 rfl 3 rfl rfl ?_
            refine x_iconst (q := 455) (z := 1) C dL_law_454 rfl rfl ?_
            refine x_iadd (q := 456) C dL_law_455  rfl ?_
            refine x_sld (q := 457) C hX hbl hbA dL_law_456 o104 hL31 rfl ?_
            refine x_virI (q := 460) C (Nat.le_of_ble_eq_true rfl) ly_51 rfl ck_RL_71 vk_X10_reads (m_X10_reads l hI h) ⟨⟨rfl, rfl⟩, ⟨Nat.le_of_ble_eq_true rfl, Nat.le_of_ble_eq_true rfl⟩, ⟨Nat.le_refl _, Nat.le_refl _⟩⟩ dL_law_457 rfl rfl (Nat.le_of_ble_eq_true rfl) rfl (fun z106 σ106 h => ?_)
            rw [h.1]
            have h := h.2
            obtain ⟨o107, h⟩ := h
            obtain ⟨o108, h⟩ := h
            refine x_icmp_eq (q := 463) (tgt := 970) C dL_law_460 rfl ⟨o107, o108⟩ rfl (fun c109 => ?_) (fun c109 => ?_)
            · have h := h.1 c109
              refine x_iinc (q := 973) (z' := v3_1 + 4) (lv' := [(0, .ref b), (1, .ref (ad 0)), (2, .ref (ad 51)), (3, .int (iI (v3_1 + 4)))]) C dL_law_970 3 rfl rfl (Nat.le_of_ble_eq_true rfl) [1, 2, 3, 0] rfl rfl ?_
              refine x_goto (tgt := 18) C dL_law_973 rfl ?_
              obtain ⟨n110, hl111, h⟩ := h
              refine x_sub [0, 1, 2, 3] rfl ?_
              exact ih1 n110 hl111 _ _ h
            · have h := h.2 c109
              refine x_iconst (q := 464) (z := 0) C dL_law_463 rfl rfl ?_
              exact h.elim
          · cases ht
            have h := h.2.2.2.2.2.2.2.2.2.2.2.2.2.2.1 (by omega)
            refine x_aload_n (q := 466) (i := 1) C dL_law_465 rfl 1 rfl rfl ?_
            refine x_aload_n (q := 467) (i := 0) C dL_law_466 rfl 0 rfl rfl ?_
            refine x_iload_n (q := 468) (i := 3) C dL_law_467 rfl 3 rfl rfl ?_
            refine x_iconst (q := 469) (z := 1) C dL_law_468 rfl rfl ?_
            refine x_iadd (q := 470) C dL_law_469  rfl ?_
            obtain ⟨o112, h⟩ := h
            refine x_sld (q := 471) C hX hbl hbA dL_law_470 o112 hL31 rfl ?_
            refine x_aload_n (q := 472) (i := 0) C dL_law_471 rfl 0 rfl rfl ?_
            refine x_iload_n (q := 473) (i := 3) C dL_law_472 rfl 3 rfl rfl ?_
            refine x_iconst (q := 474) (z := 2) C dL_law_473 rfl rfl ?_
            refine x_iadd (q := 475) C dL_law_474  rfl ?_
            obtain ⟨o113, h⟩ := h
            refine x_sld (q := 476) C hX hbl hbA dL_law_475 o113 hL31 rfl ?_
            refine x_virI (q := 479) C (Nat.le_of_ble_eq_true rfl) ly_0 rfl ck_RL_72 vk_X9_open (m_X9_open l hI h) ⟨⟨rfl, rfl⟩, ⟨Nat.le_of_ble_eq_true rfl, Nat.le_of_ble_eq_true rfl⟩, ⟨Nat.le_refl _, Nat.le_refl _⟩⟩ dL_law_476 rfl rfl (Nat.le_of_ble_eq_true rfl) rfl (fun z114 σ114 h => ?_)
            refine x_aload_n (q := 480) (i := 2) C dL_law_479 rfl 2 rfl rfl ?_
            refine x_aload_n (q := 481) (i := 0) C dL_law_480 rfl 0 rfl rfl ?_
            refine x_iload_n (q := 482) (i := 3) C dL_law_481 rfl 3 rfl rfl ?_
            refine x_iconst (q := 483) (z := 1) C dL_law_482 rfl rfl ?_
            refine x_iadd (q := 484) C dL_law_483  rfl ?_
            refine x_sld (q := 485) C hX hbl hbA dL_law_484 o112 hL31 rfl ?_
            refine x_aload_n (q := 486) (i := 0) C dL_law_485 rfl 0 rfl rfl ?_
            refine x_iload_n (q := 487) (i := 3) C dL_law_486 rfl 3 rfl rfl ?_
            refine x_iconst (q := 488) (z := 2) C dL_law_487 rfl rfl ?_
            refine x_iadd (q := 489) C dL_law_488  rfl ?_
            refine x_sld (q := 490) C hX hbl hbA dL_law_489 o113 hL31 rfl ?_
            refine x_virI (q := 493) C (Nat.le_of_ble_eq_true rfl) ly_51 rfl ck_RL_75 vk_X10_open (m_X10_open l hI h) ⟨⟨rfl, rfl⟩, ⟨Nat.le_of_ble_eq_true rfl, Nat.le_of_ble_eq_true rfl⟩, ⟨Nat.le_refl _, Nat.le_refl _⟩⟩ dL_law_490 rfl rfl (Nat.le_of_ble_eq_true rfl) rfl (fun z115 σ115 h => ?_)
            obtain ⟨o116, h⟩ := h
            obtain ⟨o117, h⟩ := h
            refine x_icmp_eq (q := 496) (tgt := 970) C dL_law_493 rfl ⟨o116, o117⟩ rfl (fun c118 => ?_) (fun c118 => ?_)
            · have h := h.1 c118
              refine x_iinc (q := 973) (z' := v3_1 + 4) (lv' := [(0, .ref b), (1, .ref (ad 0)), (2, .ref (ad 51)), (3, .int (iI (v3_1 + 4)))]) C dL_law_970 3 rfl rfl (Nat.le_of_ble_eq_true rfl) [1, 2, 3, 0] rfl rfl ?_
              refine x_goto (tgt := 18) C dL_law_973 rfl ?_
              obtain ⟨n119, hl120, h⟩ := h
              refine x_sub [0, 1, 2, 3] rfl ?_
              exact ih1 n119 hl120 _ _ h
            · have h := h.2 c118
              refine x_iconst (q := 497) (z := 0) C dL_law_496 rfl rfl ?_
              exact h.elim
          · cases ht
            have h := h.2.2.2.2.2.2.2.2.2.2.2.2.2.2.2.1 (by omega)
            refine x_aload_n (q := 499) (i := 1) C dL_law_498 rfl 1 rfl rfl ?_
            refine x_aload_n (q := 500) (i := 0) C dL_law_499 rfl 0 rfl rfl ?_
            refine x_iload_n (q := 501) (i := 3) C dL_law_500 rfl 3 rfl rfl ?_
            refine x_iconst (q := 502) (z := 1) C dL_law_501 rfl rfl ?_
            refine x_iadd (q := 503) C dL_law_502  rfl ?_
            obtain ⟨o121, h⟩ := h
            refine x_sld (q := 504) C hX hbl hbA dL_law_503 o121 hL31 rfl ?_
            refine x_aload_n (q := 505) (i := 0) C dL_law_504 rfl 0 rfl rfl ?_
            refine x_iload_n (q := 506) (i := 3) C dL_law_505 rfl 3 rfl rfl ?_
            refine x_iconst (q := 507) (z := 2) C dL_law_506 rfl rfl ?_
            refine x_iadd (q := 508) C dL_law_507  rfl ?_
            obtain ⟨o122, h⟩ := h
            refine x_sld (q := 509) C hX hbl hbA dL_law_508 o122 hL31 rfl ?_
            refine x_virI (q := 512) C (Nat.le_of_ble_eq_true rfl) ly_0 rfl ck_RL_76 vk_X9_most (m_X9_most l hI h) ⟨⟨rfl, rfl⟩, ⟨Nat.le_of_ble_eq_true rfl, Nat.le_of_ble_eq_true rfl⟩, ⟨Nat.le_refl _, Nat.le_refl _⟩⟩ dL_law_509 rfl rfl (Nat.le_of_ble_eq_true rfl) rfl (fun z123 σ123 h => ?_)
            refine x_aload_n (q := 513) (i := 2) C dL_law_512 rfl 2 rfl rfl ?_
            refine x_aload_n (q := 514) (i := 0) C dL_law_513 rfl 0 rfl rfl ?_
            refine x_iload_n (q := 515) (i := 3) C dL_law_514 rfl 3 rfl rfl ?_
            refine x_iconst (q := 516) (z := 1) C dL_law_515 rfl rfl ?_
            refine x_iadd (q := 517) C dL_law_516  rfl ?_
            refine x_sld (q := 518) C hX hbl hbA dL_law_517 o121 hL31 rfl ?_
            refine x_aload_n (q := 519) (i := 0) C dL_law_518 rfl 0 rfl rfl ?_
            refine x_iload_n (q := 520) (i := 3) C dL_law_519 rfl 3 rfl rfl ?_
            refine x_iconst (q := 521) (z := 2) C dL_law_520 rfl rfl ?_
            refine x_iadd (q := 522) C dL_law_521  rfl ?_
            refine x_sld (q := 523) C hX hbl hbA dL_law_522 o122 hL31 rfl ?_
            refine x_virI (q := 526) C (Nat.le_of_ble_eq_true rfl) ly_51 rfl ck_RL_79 vk_X10_most (m_X10_most l hI h) ⟨⟨rfl, rfl⟩, ⟨Nat.le_of_ble_eq_true rfl, Nat.le_of_ble_eq_true rfl⟩, ⟨Nat.le_refl _, Nat.le_refl _⟩⟩ dL_law_523 rfl rfl (Nat.le_of_ble_eq_true rfl) rfl (fun z124 σ124 h => ?_)
            obtain ⟨o125, h⟩ := h
            obtain ⟨o126, h⟩ := h
            refine x_icmp_eq (q := 529) (tgt := 970) C dL_law_526 rfl ⟨o125, o126⟩ rfl (fun c127 => ?_) (fun c127 => ?_)
            · have h := h.1 c127
              refine x_iinc (q := 973) (z' := v3_1 + 4) (lv' := [(0, .ref b), (1, .ref (ad 0)), (2, .ref (ad 51)), (3, .int (iI (v3_1 + 4)))]) C dL_law_970 3 rfl rfl (Nat.le_of_ble_eq_true rfl) [1, 2, 3, 0] rfl rfl ?_
              refine x_goto (tgt := 18) C dL_law_973 rfl ?_
              obtain ⟨n128, hl129, h⟩ := h
              refine x_sub [0, 1, 2, 3] rfl ?_
              exact ih1 n128 hl129 _ _ h
            · have h := h.2 c127
              refine x_iconst (q := 530) (z := 0) C dL_law_529 rfl rfl ?_
              exact h.elim
          · cases ht
            have h := h.2.2.2.2.2.2.2.2.2.2.2.2.2.2.2.2.1 (by omega)
            refine x_aload_n (q := 532) (i := 1) C dL_law_531 rfl 1 rfl rfl ?_
            refine x_aload_n (q := 533) (i := 0) C dL_law_532 rfl 0 rfl rfl ?_
            refine x_iload_n (q := 534) (i := 3) C dL_law_533 rfl 3 rfl rfl ?_
            refine x_iconst (q := 535) (z := 1) C dL_law_534 rfl rfl ?_
            refine x_iadd (q := 536) C dL_law_535  rfl ?_
            obtain ⟨o130, h⟩ := h
            refine x_sld (q := 537) C hX hbl hbA dL_law_536 o130 hL31 rfl ?_
            refine x_aload_n (q := 538) (i := 0) C dL_law_537 rfl 0 rfl rfl ?_
            refine x_iload_n (q := 539) (i := 3) C dL_law_538 rfl 3 rfl rfl ?_
            refine x_iconst (q := 540) (z := 2) C dL_law_539 rfl rfl ?_
            refine x_iadd (q := 541) C dL_law_540  rfl ?_
            obtain ⟨o131, h⟩ := h
            refine x_sld (q := 542) C hX hbl hbA dL_law_541 o131 hL31 rfl ?_
            refine x_i2lr (q := 543) C dL_law_542 rfl ?_
            refine x_bipush (q := 545) (z := 32) C dL_law_543 rfl rfl ?_
            refine x_lshl (q := 546) C dL_law_545 rfl ?_
            refine x_aload_n (q := 547) (i := 0) C dL_law_546 rfl 0 rfl rfl ?_
            refine x_iload_n (q := 548) (i := 3) C dL_law_547 rfl 3 rfl rfl ?_
            refine x_iconst (q := 549) (z := 3) C dL_law_548 rfl rfl ?_
            refine x_iadd (q := 550) C dL_law_549  rfl ?_
            obtain ⟨o132, h⟩ := h
            refine x_sld (q := 551) C hX hbl hbA dL_law_550 o132 hL31 rfl ?_
            refine x_i2lr (q := 552) C dL_law_551 rfl ?_
            refine x_ldc2r (q := 555) (v := 4294967295) C dL_law_552 t5_56 rfl ?_
            refine x_land (q := 556) C dL_law_555 rfl ?_
            refine x_lor (q := 557) C dL_law_556 rfl ?_
            refine x_topl ?_
            refine x_virI (q := 560) C (Nat.le_of_ble_eq_true rfl) ly_0 rfl ck_RL_80 vk_X9_judge (m_X9_judge l hI h) ⟨⟨rfl, rfl⟩, ⟨Nat.le_of_ble_eq_true rfl, Nat.le_of_ble_eq_true rfl⟩, ⟨Nat.le_refl _, Nat.le_refl _⟩⟩ dL_law_557 rfl rfl (Nat.le_of_ble_eq_true rfl) rfl (fun z133 σ133 h => ?_)
            refine x_aload_n (q := 561) (i := 2) C dL_law_560 rfl 2 rfl rfl ?_
            refine x_aload_n (q := 562) (i := 0) C dL_law_561 rfl 0 rfl rfl ?_
            refine x_iload_n (q := 563) (i := 3) C dL_law_562 rfl 3 rfl rfl ?_
            refine x_iconst (q := 564) (z := 1) C dL_law_563 rfl rfl ?_
            refine x_iadd (q := 565) C dL_law_564  rfl ?_
            refine x_sld (q := 566) C hX hbl hbA dL_law_565 o130 hL31 rfl ?_
            refine x_aload_n (q := 567) (i := 0) C dL_law_566 rfl 0 rfl rfl ?_
            refine x_iload_n (q := 568) (i := 3) C dL_law_567 rfl 3 rfl rfl ?_
            refine x_iconst (q := 569) (z := 2) C dL_law_568 rfl rfl ?_
            refine x_iadd (q := 570) C dL_law_569  rfl ?_
            refine x_sld (q := 571) C hX hbl hbA dL_law_570 o131 hL31 rfl ?_
            refine x_i2lr (q := 572) C dL_law_571 rfl ?_
            refine x_bipush (q := 574) (z := 32) C dL_law_572 rfl rfl ?_
            refine x_lshl (q := 575) C dL_law_574 rfl ?_
            refine x_aload_n (q := 576) (i := 0) C dL_law_575 rfl 0 rfl rfl ?_
            refine x_iload_n (q := 577) (i := 3) C dL_law_576 rfl 3 rfl rfl ?_
            refine x_iconst (q := 578) (z := 3) C dL_law_577 rfl rfl ?_
            refine x_iadd (q := 579) C dL_law_578  rfl ?_
            refine x_sld (q := 580) C hX hbl hbA dL_law_579 o132 hL31 rfl ?_
            refine x_i2lr (q := 581) C dL_law_580 rfl ?_
            refine x_ldc2r (q := 584) (v := 4294967295) C dL_law_581 t5_56 rfl ?_
            refine x_land (q := 585) C dL_law_584 rfl ?_
            refine x_lor (q := 586) C dL_law_585 rfl ?_
            refine x_topl ?_
            refine x_virI (q := 589) C (Nat.le_of_ble_eq_true rfl) ly_51 rfl ck_RL_83 vk_X10_judge (m_X10_judge l hI h) ⟨⟨rfl, rfl⟩, ⟨Nat.le_of_ble_eq_true rfl, Nat.le_of_ble_eq_true rfl⟩, ⟨Nat.le_refl _, Nat.le_refl _⟩⟩ dL_law_586 rfl rfl (Nat.le_of_ble_eq_true rfl) rfl (fun z134 σ134 h => ?_)
            obtain ⟨o135, h⟩ := h
            obtain ⟨o136, h⟩ := h
            refine x_icmp_eq (q := 592) (tgt := 970) C dL_law_589 rfl ⟨o135, o136⟩ rfl (fun c137 => ?_) (fun c137 => ?_)
            · have h := h.1 c137
              refine x_iinc (q := 973) (z' := v3_1 + 4) (lv' := [(0, .ref b), (1, .ref (ad 0)), (2, .ref (ad 51)), (3, .int (iI (v3_1 + 4)))]) C dL_law_970 3 rfl rfl (Nat.le_of_ble_eq_true rfl) [1, 2, 3, 0] rfl rfl ?_
              refine x_goto (tgt := 18) C dL_law_973 rfl ?_
              obtain ⟨n138, hl139, h⟩ := h
              refine x_sub [0, 1, 2, 3] rfl ?_
              exact ih1 n138 hl139 _ _ h
            · have h := h.2 c137
              refine x_iconst (q := 593) (z := 0) C dL_law_592 rfl rfl ?_
              exact h.elim
          · cases ht
            have h := h.2.2.2.2.2.2.2.2.2.2.2.2.2.2.2.2.2.1 (by omega)
            refine x_aload_n (q := 595) (i := 1) C dL_law_594 rfl 1 rfl rfl ?_
            refine x_aload_n (q := 596) (i := 0) C dL_law_595 rfl 0 rfl rfl ?_
            refine x_iload_n (q := 597) (i := 3) C dL_law_596 rfl 3 rfl rfl ?_
            refine x_iconst (q := 598) (z := 1) C dL_law_597 rfl rfl ?_
            refine x_iadd (q := 599) C dL_law_598  rfl ?_
            obtain ⟨o140, h⟩ := h
            refine x_sld (q := 600) C hX hbl hbA dL_law_599 o140 hL31 rfl ?_
            refine x_aload_n (q := 601) (i := 0) C dL_law_600 rfl 0 rfl rfl ?_
            refine x_iload_n (q := 602) (i := 3) C dL_law_601 rfl 3 rfl rfl ?_
            refine x_iconst (q := 603) (z := 2) C dL_law_602 rfl rfl ?_
            refine x_iadd (q := 604) C dL_law_603  rfl ?_
            obtain ⟨o141, h⟩ := h
            refine x_sld (q := 605) C hX hbl hbA dL_law_604 o141 hL31 rfl ?_
            refine x_aload_n (q := 606) (i := 0) C dL_law_605 rfl 0 rfl rfl ?_
            refine x_iload_n (q := 607) (i := 3) C dL_law_606 rfl 3 rfl rfl ?_
            refine x_iconst (q := 608) (z := 3) C dL_law_607 rfl rfl ?_
            refine x_iadd (q := 609) C dL_law_608  rfl ?_
            obtain ⟨o142, h⟩ := h
            refine x_sld (q := 610) C hX hbl hbA dL_law_609 o142 hL31 rfl ?_
            refine x_virI (q := 613) C (Nat.le_of_ble_eq_true rfl) ly_0 rfl ck_RL_84 vk_X9_spy (m_X9_spy l hI h) ⟨⟨rfl, rfl⟩, ⟨Nat.le_of_ble_eq_true rfl, Nat.le_of_ble_eq_true rfl⟩, ⟨Nat.le_refl _, Nat.le_refl _⟩⟩ dL_law_610 rfl rfl (Nat.le_of_ble_eq_true rfl) rfl (fun z143 σ143 h => ?_)
            refine x_aload_n (q := 614) (i := 2) C dL_law_613 rfl 2 rfl rfl ?_
            refine x_aload_n (q := 615) (i := 0) C dL_law_614 rfl 0 rfl rfl ?_
            refine x_iload_n (q := 616) (i := 3) C dL_law_615 rfl 3 rfl rfl ?_
            refine x_iconst (q := 617) (z := 1) C dL_law_616 rfl rfl ?_
            refine x_iadd (q := 618) C dL_law_617  rfl ?_
            refine x_sld (q := 619) C hX hbl hbA dL_law_618 o140 hL31 rfl ?_
            refine x_aload_n (q := 620) (i := 0) C dL_law_619 rfl 0 rfl rfl ?_
            refine x_iload_n (q := 621) (i := 3) C dL_law_620 rfl 3 rfl rfl ?_
            refine x_iconst (q := 622) (z := 2) C dL_law_621 rfl rfl ?_
            refine x_iadd (q := 623) C dL_law_622  rfl ?_
            refine x_sld (q := 624) C hX hbl hbA dL_law_623 o141 hL31 rfl ?_
            refine x_aload_n (q := 625) (i := 0) C dL_law_624 rfl 0 rfl rfl ?_
            refine x_iload_n (q := 626) (i := 3) C dL_law_625 rfl 3 rfl rfl ?_
            refine x_iconst (q := 627) (z := 3) C dL_law_626 rfl rfl ?_
            refine x_iadd (q := 628) C dL_law_627  rfl ?_
            refine x_sld (q := 629) C hX hbl hbA dL_law_628 o142 hL31 rfl ?_
            refine x_virI (q := 632) C (Nat.le_of_ble_eq_true rfl) ly_51 rfl ck_RL_87 vk_X10_spy (m_X10_spy l hI h) ⟨⟨rfl, rfl⟩, ⟨Nat.le_of_ble_eq_true rfl, Nat.le_of_ble_eq_true rfl⟩, ⟨Nat.le_refl _, Nat.le_refl _⟩⟩ dL_law_629 rfl rfl (Nat.le_of_ble_eq_true rfl) rfl (fun z144 σ144 h => ?_)
            obtain ⟨o145, h⟩ := h
            obtain ⟨o146, h⟩ := h
            refine x_icmp_eq (q := 635) (tgt := 970) C dL_law_632 rfl ⟨o145, o146⟩ rfl (fun c147 => ?_) (fun c147 => ?_)
            · have h := h.1 c147
              refine x_iinc (q := 973) (z' := v3_1 + 4) (lv' := [(0, .ref b), (1, .ref (ad 0)), (2, .ref (ad 51)), (3, .int (iI (v3_1 + 4)))]) C dL_law_970 3 rfl rfl (Nat.le_of_ble_eq_true rfl) [1, 2, 3, 0] rfl rfl ?_
              refine x_goto (tgt := 18) C dL_law_973 rfl ?_
              obtain ⟨n148, hl149, h⟩ := h
              refine x_sub [0, 1, 2, 3] rfl ?_
              exact ih1 n148 hl149 _ _ h
            · have h := h.2 c147
              refine x_iconst (q := 636) (z := 0) C dL_law_635 rfl rfl ?_
              exact h.elim
          · cases ht
            have h := h.2.2.2.2.2.2.2.2.2.2.2.2.2.2.2.2.2.2.1 (by omega)
            refine x_aload_n (q := 638) (i := 1) C dL_law_637 rfl 1 rfl rfl ?_
            refine x_virI (q := 641) C (Nat.le_of_ble_eq_true rfl) ly_0 rfl ck_RL_88 vk_X9_unspy (m_X9_unspy l hI h) ⟨⟨rfl, rfl⟩, ⟨Nat.le_of_ble_eq_true rfl, Nat.le_of_ble_eq_true rfl⟩, ⟨Nat.le_refl _, Nat.le_refl _⟩⟩ dL_law_638 rfl rfl (Nat.le_of_ble_eq_true rfl) rfl (fun z150 σ150 h => ?_)
            refine x_aload_n (q := 642) (i := 2) C dL_law_641 rfl 2 rfl rfl ?_
            refine x_virI (q := 645) C (Nat.le_of_ble_eq_true rfl) ly_51 rfl ck_RL_91 vk_X10_unspy (m_X10_unspy l hI h) ⟨⟨rfl, rfl⟩, ⟨Nat.le_of_ble_eq_true rfl, Nat.le_of_ble_eq_true rfl⟩, ⟨Nat.le_refl _, Nat.le_refl _⟩⟩ dL_law_642 rfl rfl (Nat.le_of_ble_eq_true rfl) rfl (fun z151 σ151 h => ?_)
            obtain ⟨o152, h⟩ := h
            obtain ⟨o153, h⟩ := h
            refine x_icmp_eq (q := 648) (tgt := 970) C dL_law_645 rfl ⟨o152, o153⟩ rfl (fun c154 => ?_) (fun c154 => ?_)
            · have h := h.1 c154
              refine x_iinc (q := 973) (z' := v3_1 + 4) (lv' := [(0, .ref b), (1, .ref (ad 0)), (2, .ref (ad 51)), (3, .int (iI (v3_1 + 4)))]) C dL_law_970 3 rfl rfl (Nat.le_of_ble_eq_true rfl) [1, 2, 3, 0] rfl rfl ?_
              refine x_goto (tgt := 18) C dL_law_973 rfl ?_
              obtain ⟨n155, hl156, h⟩ := h
              refine x_sub [0, 1, 2, 3] rfl ?_
              exact ih1 n155 hl156 _ _ h
            · have h := h.2 c154
              refine x_iconst (q := 649) (z := 0) C dL_law_648 rfl rfl ?_
              exact h.elim
          · cases ht
            have h := h.2.2.2.2.2.2.2.2.2.2.2.2.2.2.2.2.2.2.2.1 (by omega)
            refine x_aload_n (q := 651) (i := 1) C dL_law_650 rfl 1 rfl rfl ?_
            refine x_aload_n (q := 652) (i := 0) C dL_law_651 rfl 0 rfl rfl ?_
            refine x_iload_n (q := 653) (i := 3) C dL_law_652 rfl 3 rfl rfl ?_
            refine x_iconst (q := 654) (z := 1) C dL_law_653 rfl rfl ?_
            refine x_iadd (q := 655) C dL_law_654  rfl ?_
            obtain ⟨o157, h⟩ := h
            refine x_sld (q := 656) C hX hbl hbA dL_law_655 o157 hL31 rfl ?_
            refine x_virI (q := 659) C (Nat.le_of_ble_eq_true rfl) ly_0 rfl ck_RL_92 vk_X9_gaps (m_X9_gaps l hI h) ⟨⟨rfl, rfl⟩, ⟨Nat.le_of_ble_eq_true rfl, Nat.le_of_ble_eq_true rfl⟩, ⟨Nat.le_refl _, Nat.le_refl _⟩⟩ dL_law_656 rfl rfl (Nat.le_of_ble_eq_true rfl) rfl (fun z158 σ158 h => ?_)
            refine x_aload_n (q := 660) (i := 2) C dL_law_659 rfl 2 rfl rfl ?_
            refine x_aload_n (q := 661) (i := 0) C dL_law_660 rfl 0 rfl rfl ?_
            refine x_iload_n (q := 662) (i := 3) C dL_law_661 rfl 3 rfl rfl ?_
            refine x_iconst (q := 663) (z := 1) C dL_law_662 rfl rfl ?_
            refine x_iadd (q := 664) C dL_law_663  rfl ?_
            refine x_sld (q := 665) C hX hbl hbA dL_law_664 o157 hL31 rfl ?_
            refine x_virI (q := 668) C (Nat.le_of_ble_eq_true rfl) ly_51 rfl ck_RL_95 vk_X10_gaps (m_X10_gaps l hI h) ⟨⟨rfl, rfl⟩, ⟨Nat.le_of_ble_eq_true rfl, Nat.le_of_ble_eq_true rfl⟩, ⟨Nat.le_refl _, Nat.le_refl _⟩⟩ dL_law_665 rfl rfl (Nat.le_of_ble_eq_true rfl) rfl (fun z159 σ159 h => ?_)
            obtain ⟨o160, h⟩ := h
            obtain ⟨o161, h⟩ := h
            refine x_icmp_eq (q := 671) (tgt := 970) C dL_law_668 rfl ⟨o160, o161⟩ rfl (fun c162 => ?_) (fun c162 => ?_)
            · have h := h.1 c162
              refine x_iinc (q := 973) (z' := v3_1 + 4) (lv' := [(0, .ref b), (1, .ref (ad 0)), (2, .ref (ad 51)), (3, .int (iI (v3_1 + 4)))]) C dL_law_970 3 rfl rfl (Nat.le_of_ble_eq_true rfl) [1, 2, 3, 0] rfl rfl ?_
              refine x_goto (tgt := 18) C dL_law_973 rfl ?_
              obtain ⟨n163, hl164, h⟩ := h
              refine x_sub [0, 1, 2, 3] rfl ?_
              exact ih1 n163 hl164 _ _ h
            · have h := h.2 c162
              refine x_iconst (q := 672) (z := 0) C dL_law_671 rfl rfl ?_
              exact h.elim
          · cases ht
            have h := h.2.2.2.2.2.2.2.2.2.2.2.2.2.2.2.2.2.2.2.2.1 (by omega)
            refine x_aload_n (q := 674) (i := 1) C dL_law_673 rfl 1 rfl rfl ?_
            refine x_aload_n (q := 675) (i := 0) C dL_law_674 rfl 0 rfl rfl ?_
            refine x_iload_n (q := 676) (i := 3) C dL_law_675 rfl 3 rfl rfl ?_
            refine x_iconst (q := 677) (z := 1) C dL_law_676 rfl rfl ?_
            refine x_iadd (q := 678) C dL_law_677  rfl ?_
            obtain ⟨o165, h⟩ := h
            refine x_sld (q := 679) C hX hbl hbA dL_law_678 o165 hL31 rfl ?_
            refine x_aload_n (q := 680) (i := 0) C dL_law_679 rfl 0 rfl rfl ?_
            refine x_iload_n (q := 681) (i := 3) C dL_law_680 rfl 3 rfl rfl ?_
            refine x_iconst (q := 682) (z := 2) C dL_law_681 rfl rfl ?_
            refine x_iadd (q := 683) C dL_law_682  rfl ?_
            obtain ⟨o166, h⟩ := h
            refine x_sld (q := 684) C hX hbl hbA dL_law_683 o166 hL31 rfl ?_
            obtain ⟨o167, h⟩ := h
            refine x_if_eq (q := 687) (tgt := 691) C dL_law_684 rfl o167 rfl (fun c168 => ?_) (fun c168 => ?_)
            · have h := h.1 c168
              refine x_iconst (q := 692) (z := 0) C dL_law_691 rfl rfl ?_
              refine x_virI (q := 695) C (Nat.le_of_ble_eq_true rfl) ly_0 rfl ck_RL_96 vk_X9_share (m_X9_share l hI h) ⟨⟨rfl, rfl⟩, ⟨Nat.le_of_ble_eq_true rfl, Nat.le_of_ble_eq_true rfl⟩, ⟨Nat.le_refl _, Nat.le_refl _⟩⟩ dL_law_692 rfl rfl (Nat.le_of_ble_eq_true rfl) rfl (fun z169 σ169 h => ?_)
              rw [h.1]
              have h := h.2
              refine x_aload_n (q := 696) (i := 2) C dL_law_695 rfl 2 rfl rfl ?_
              refine x_aload_n (q := 697) (i := 0) C dL_law_696 rfl 0 rfl rfl ?_
              refine x_iload_n (q := 698) (i := 3) C dL_law_697 rfl 3 rfl rfl ?_
              refine x_iconst (q := 699) (z := 1) C dL_law_698 rfl rfl ?_
              refine x_iadd (q := 700) C dL_law_699  rfl ?_
              refine x_sld (q := 701) C hX hbl hbA dL_law_700 o165 hL31 rfl ?_
              refine x_aload_n (q := 702) (i := 0) C dL_law_701 rfl 0 rfl rfl ?_
              refine x_iload_n (q := 703) (i := 3) C dL_law_702 rfl 3 rfl rfl ?_
              refine x_iconst (q := 704) (z := 2) C dL_law_703 rfl rfl ?_
              refine x_iadd (q := 705) C dL_law_704  rfl ?_
              refine x_sld (q := 706) C hX hbl hbA dL_law_705 o166 hL31 rfl ?_
              refine x_if_eq (q := 709) (tgt := 713) C dL_law_706 rfl o167 rfl (fun c170 => ?_) (fun c170 => ?_)
              · have h := h.1 c170
                refine x_iconst (q := 714) (z := 0) C dL_law_713 rfl rfl ?_
                refine x_virI (q := 717) C (Nat.le_of_ble_eq_true rfl) ly_51 rfl ck_RL_100 vk_X10_share (m_X10_share l hI h) ⟨⟨rfl, rfl⟩, ⟨Nat.le_of_ble_eq_true rfl, Nat.le_of_ble_eq_true rfl⟩, ⟨Nat.le_refl _, Nat.le_refl _⟩⟩ dL_law_714 rfl rfl (Nat.le_of_ble_eq_true rfl) rfl (fun z171 σ171 h => ?_)
                rw [h.1]
                have h := h.2
                obtain ⟨o172, h⟩ := h
                obtain ⟨o173, h⟩ := h
                refine x_icmp_eq (q := 720) (tgt := 970) C dL_law_717 rfl ⟨o172, o173⟩ rfl (fun c174 => ?_) (fun c174 => ?_)
                · have h := h.1 c174
                  refine x_iinc (q := 973) (z' := v3_1 + 4) (lv' := [(0, .ref b), (1, .ref (ad 0)), (2, .ref (ad 51)), (3, .int (iI (v3_1 + 4)))]) C dL_law_970 3 rfl rfl (Nat.le_of_ble_eq_true rfl) [1, 2, 3, 0] rfl rfl ?_
                  refine x_goto (tgt := 18) C dL_law_973 rfl ?_
                  obtain ⟨n175, hl176, h⟩ := h
                  refine x_sub [0, 1, 2, 3] rfl ?_
                  exact ih1 n175 hl176 _ _ h
                · have h := h.2 c174
                  refine x_iconst (q := 721) (z := 0) C dL_law_720 rfl rfl ?_
                  exact h.elim
              · have h := h.2 c170
                refine x_iconst (q := 710) (z := 1) C dL_law_709 rfl rfl ?_
                refine x_goto (tgt := 714) C dL_law_710 rfl ?_
                refine x_virI (q := 717) C (Nat.le_of_ble_eq_true rfl) ly_51 rfl ck_RL_100 vk_X10_share (m_X10_share l hI h) ⟨⟨rfl, rfl⟩, ⟨Nat.le_of_ble_eq_true rfl, Nat.le_of_ble_eq_true rfl⟩, ⟨Nat.le_refl _, Nat.le_refl _⟩⟩ dL_law_714 rfl rfl (Nat.le_of_ble_eq_true rfl) rfl (fun z177 σ177 h => ?_)
                rw [h.1]
                have h := h.2
                obtain ⟨o178, h⟩ := h
                obtain ⟨o179, h⟩ := h
                refine x_icmp_eq (q := 720) (tgt := 970) C dL_law_717 rfl ⟨o178, o179⟩ rfl (fun c180 => ?_) (fun c180 => ?_)
                · have h := h.1 c180
                  refine x_iinc (q := 973) (z' := v3_1 + 4) (lv' := [(0, .ref b), (1, .ref (ad 0)), (2, .ref (ad 51)), (3, .int (iI (v3_1 + 4)))]) C dL_law_970 3 rfl rfl (Nat.le_of_ble_eq_true rfl) [1, 2, 3, 0] rfl rfl ?_
                  refine x_goto (tgt := 18) C dL_law_973 rfl ?_
                  obtain ⟨n181, hl182, h⟩ := h
                  refine x_sub [0, 1, 2, 3] rfl ?_
                  exact ih1 n181 hl182 _ _ h
                · have h := h.2 c180
                  refine x_iconst (q := 721) (z := 0) C dL_law_720 rfl rfl ?_
                  exact h.elim
            · have h := h.2 c168
              refine x_iconst (q := 688) (z := 1) C dL_law_687 rfl rfl ?_
              refine x_goto (tgt := 692) C dL_law_688 rfl ?_
              refine x_virI (q := 695) C (Nat.le_of_ble_eq_true rfl) ly_0 rfl ck_RL_96 vk_X9_share (m_X9_share l hI h) ⟨⟨rfl, rfl⟩, ⟨Nat.le_of_ble_eq_true rfl, Nat.le_of_ble_eq_true rfl⟩, ⟨Nat.le_refl _, Nat.le_refl _⟩⟩ dL_law_692 rfl rfl (Nat.le_of_ble_eq_true rfl) rfl (fun z183 σ183 h => ?_)
              rw [h.1]
              have h := h.2
              refine x_aload_n (q := 696) (i := 2) C dL_law_695 rfl 2 rfl rfl ?_
              refine x_aload_n (q := 697) (i := 0) C dL_law_696 rfl 0 rfl rfl ?_
              refine x_iload_n (q := 698) (i := 3) C dL_law_697 rfl 3 rfl rfl ?_
              refine x_iconst (q := 699) (z := 1) C dL_law_698 rfl rfl ?_
              refine x_iadd (q := 700) C dL_law_699  rfl ?_
              refine x_sld (q := 701) C hX hbl hbA dL_law_700 o165 hL31 rfl ?_
              refine x_aload_n (q := 702) (i := 0) C dL_law_701 rfl 0 rfl rfl ?_
              refine x_iload_n (q := 703) (i := 3) C dL_law_702 rfl 3 rfl rfl ?_
              refine x_iconst (q := 704) (z := 2) C dL_law_703 rfl rfl ?_
              refine x_iadd (q := 705) C dL_law_704  rfl ?_
              refine x_sld (q := 706) C hX hbl hbA dL_law_705 o166 hL31 rfl ?_
              refine x_if_eq (q := 709) (tgt := 713) C dL_law_706 rfl o167 rfl (fun c184 => ?_) (fun c184 => ?_)
              · have h := h.1 c184
                refine x_iconst (q := 714) (z := 0) C dL_law_713 rfl rfl ?_
                refine x_virI (q := 717) C (Nat.le_of_ble_eq_true rfl) ly_51 rfl ck_RL_100 vk_X10_share (m_X10_share l hI h) ⟨⟨rfl, rfl⟩, ⟨Nat.le_of_ble_eq_true rfl, Nat.le_of_ble_eq_true rfl⟩, ⟨Nat.le_refl _, Nat.le_refl _⟩⟩ dL_law_714 rfl rfl (Nat.le_of_ble_eq_true rfl) rfl (fun z185 σ185 h => ?_)
                rw [h.1]
                have h := h.2
                obtain ⟨o186, h⟩ := h
                obtain ⟨o187, h⟩ := h
                refine x_icmp_eq (q := 720) (tgt := 970) C dL_law_717 rfl ⟨o186, o187⟩ rfl (fun c188 => ?_) (fun c188 => ?_)
                · have h := h.1 c188
                  refine x_iinc (q := 973) (z' := v3_1 + 4) (lv' := [(0, .ref b), (1, .ref (ad 0)), (2, .ref (ad 51)), (3, .int (iI (v3_1 + 4)))]) C dL_law_970 3 rfl rfl (Nat.le_of_ble_eq_true rfl) [1, 2, 3, 0] rfl rfl ?_
                  refine x_goto (tgt := 18) C dL_law_973 rfl ?_
                  obtain ⟨n189, hl190, h⟩ := h
                  refine x_sub [0, 1, 2, 3] rfl ?_
                  exact ih1 n189 hl190 _ _ h
                · have h := h.2 c188
                  refine x_iconst (q := 721) (z := 0) C dL_law_720 rfl rfl ?_
                  exact h.elim
              · have h := h.2 c184
                refine x_iconst (q := 710) (z := 1) C dL_law_709 rfl rfl ?_
                refine x_goto (tgt := 714) C dL_law_710 rfl ?_
                refine x_virI (q := 717) C (Nat.le_of_ble_eq_true rfl) ly_51 rfl ck_RL_100 vk_X10_share (m_X10_share l hI h) ⟨⟨rfl, rfl⟩, ⟨Nat.le_of_ble_eq_true rfl, Nat.le_of_ble_eq_true rfl⟩, ⟨Nat.le_refl _, Nat.le_refl _⟩⟩ dL_law_714 rfl rfl (Nat.le_of_ble_eq_true rfl) rfl (fun z191 σ191 h => ?_)
                rw [h.1]
                have h := h.2
                obtain ⟨o192, h⟩ := h
                obtain ⟨o193, h⟩ := h
                refine x_icmp_eq (q := 720) (tgt := 970) C dL_law_717 rfl ⟨o192, o193⟩ rfl (fun c194 => ?_) (fun c194 => ?_)
                · have h := h.1 c194
                  refine x_iinc (q := 973) (z' := v3_1 + 4) (lv' := [(0, .ref b), (1, .ref (ad 0)), (2, .ref (ad 51)), (3, .int (iI (v3_1 + 4)))]) C dL_law_970 3 rfl rfl (Nat.le_of_ble_eq_true rfl) [1, 2, 3, 0] rfl rfl ?_
                  refine x_goto (tgt := 18) C dL_law_973 rfl ?_
                  obtain ⟨n195, hl196, h⟩ := h
                  refine x_sub [0, 1, 2, 3] rfl ?_
                  exact ih1 n195 hl196 _ _ h
                · have h := h.2 c194
                  refine x_iconst (q := 721) (z := 0) C dL_law_720 rfl rfl ?_
                  exact h.elim
          · cases ht
            have h := h.2.2.2.2.2.2.2.2.2.2.2.2.2.2.2.2.2.2.2.2.2.1 (by omega)
            refine x_aload_n (q := 723) (i := 1) C dL_law_722 rfl 1 rfl rfl ?_
            refine x_aload_n (q := 724) (i := 0) C dL_law_723 rfl 0 rfl rfl ?_
            refine x_iload_n (q := 725) (i := 3) C dL_law_724 rfl 3 rfl rfl ?_
            refine x_iconst (q := 726) (z := 1) C dL_law_725 rfl rfl ?_
            refine x_iadd (q := 727) C dL_law_726  rfl ?_
            obtain ⟨o197, h⟩ := h
            refine x_sld (q := 728) C hX hbl hbA dL_law_727 o197 hL31 rfl ?_
            refine x_aload_n (q := 729) (i := 0) C dL_law_728 rfl 0 rfl rfl ?_
            refine x_iload_n (q := 730) (i := 3) C dL_law_729 rfl 3 rfl rfl ?_
            refine x_iconst (q := 731) (z := 2) C dL_law_730 rfl rfl ?_
            refine x_iadd (q := 732) C dL_law_731  rfl ?_
            obtain ⟨o198, h⟩ := h
            refine x_sld (q := 733) C hX hbl hbA dL_law_732 o198 hL31 rfl ?_
            refine x_aload_n (q := 734) (i := 0) C dL_law_733 rfl 0 rfl rfl ?_
            refine x_iload_n (q := 735) (i := 3) C dL_law_734 rfl 3 rfl rfl ?_
            refine x_iconst (q := 736) (z := 3) C dL_law_735 rfl rfl ?_
            refine x_iadd (q := 737) C dL_law_736  rfl ?_
            obtain ⟨o199, h⟩ := h
            refine x_sld (q := 738) C hX hbl hbA dL_law_737 o199 hL31 rfl ?_
            refine x_virI (q := 741) C (Nat.le_of_ble_eq_true rfl) ly_0 rfl ck_RL_101 vk_X9_rests (m_X9_rests l hI h) ⟨⟨rfl, rfl⟩, ⟨Nat.le_of_ble_eq_true rfl, Nat.le_of_ble_eq_true rfl⟩, ⟨Nat.le_refl _, Nat.le_refl _⟩⟩ dL_law_738 rfl rfl (Nat.le_of_ble_eq_true rfl) rfl (fun z200 σ200 h => ?_)
            refine x_aload_n (q := 742) (i := 2) C dL_law_741 rfl 2 rfl rfl ?_
            refine x_aload_n (q := 743) (i := 0) C dL_law_742 rfl 0 rfl rfl ?_
            refine x_iload_n (q := 744) (i := 3) C dL_law_743 rfl 3 rfl rfl ?_
            refine x_iconst (q := 745) (z := 1) C dL_law_744 rfl rfl ?_
            refine x_iadd (q := 746) C dL_law_745  rfl ?_
            refine x_sld (q := 747) C hX hbl hbA dL_law_746 o197 hL31 rfl ?_
            refine x_aload_n (q := 748) (i := 0) C dL_law_747 rfl 0 rfl rfl ?_
            refine x_iload_n (q := 749) (i := 3) C dL_law_748 rfl 3 rfl rfl ?_
            refine x_iconst (q := 750) (z := 2) C dL_law_749 rfl rfl ?_
            refine x_iadd (q := 751) C dL_law_750  rfl ?_
            refine x_sld (q := 752) C hX hbl hbA dL_law_751 o198 hL31 rfl ?_
            refine x_aload_n (q := 753) (i := 0) C dL_law_752 rfl 0 rfl rfl ?_
            refine x_iload_n (q := 754) (i := 3) C dL_law_753 rfl 3 rfl rfl ?_
            refine x_iconst (q := 755) (z := 3) C dL_law_754 rfl rfl ?_
            refine x_iadd (q := 756) C dL_law_755  rfl ?_
            refine x_sld (q := 757) C hX hbl hbA dL_law_756 o199 hL31 rfl ?_
            refine x_virI (q := 760) C (Nat.le_of_ble_eq_true rfl) ly_51 rfl ck_RL_104 vk_X10_rests (m_X10_rests l hI h) ⟨⟨rfl, rfl⟩, ⟨Nat.le_of_ble_eq_true rfl, Nat.le_of_ble_eq_true rfl⟩, ⟨Nat.le_refl _, Nat.le_refl _⟩⟩ dL_law_757 rfl rfl (Nat.le_of_ble_eq_true rfl) rfl (fun z201 σ201 h => ?_)
            obtain ⟨o202, h⟩ := h
            obtain ⟨o203, h⟩ := h
            refine x_icmp_eq (q := 763) (tgt := 970) C dL_law_760 rfl ⟨o202, o203⟩ rfl (fun c204 => ?_) (fun c204 => ?_)
            · have h := h.1 c204
              refine x_iinc (q := 973) (z' := v3_1 + 4) (lv' := [(0, .ref b), (1, .ref (ad 0)), (2, .ref (ad 51)), (3, .int (iI (v3_1 + 4)))]) C dL_law_970 3 rfl rfl (Nat.le_of_ble_eq_true rfl) [1, 2, 3, 0] rfl rfl ?_
              refine x_goto (tgt := 18) C dL_law_973 rfl ?_
              obtain ⟨n205, hl206, h⟩ := h
              refine x_sub [0, 1, 2, 3] rfl ?_
              exact ih1 n205 hl206 _ _ h
            · have h := h.2 c204
              refine x_iconst (q := 764) (z := 0) C dL_law_763 rfl rfl ?_
              exact h.elim
          · cases ht
            have h := h.2.2.2.2.2.2.2.2.2.2.2.2.2.2.2.2.2.2.2.2.2.2.1 (by omega)
            refine x_aload_n (q := 766) (i := 1) C dL_law_765 rfl 1 rfl rfl ?_
            refine x_aload_n (q := 767) (i := 0) C dL_law_766 rfl 0 rfl rfl ?_
            refine x_iload_n (q := 768) (i := 3) C dL_law_767 rfl 3 rfl rfl ?_
            refine x_iconst (q := 769) (z := 1) C dL_law_768 rfl rfl ?_
            refine x_iadd (q := 770) C dL_law_769  rfl ?_
            obtain ⟨o207, h⟩ := h
            refine x_sld (q := 771) C hX hbl hbA dL_law_770 o207 hL31 rfl ?_
            refine x_aload_n (q := 772) (i := 0) C dL_law_771 rfl 0 rfl rfl ?_
            refine x_iload_n (q := 773) (i := 3) C dL_law_772 rfl 3 rfl rfl ?_
            refine x_iconst (q := 774) (z := 2) C dL_law_773 rfl rfl ?_
            refine x_iadd (q := 775) C dL_law_774  rfl ?_
            obtain ⟨o208, h⟩ := h
            refine x_sld (q := 776) C hX hbl hbA dL_law_775 o208 hL31 rfl ?_
            refine x_aload_n (q := 777) (i := 0) C dL_law_776 rfl 0 rfl rfl ?_
            refine x_iload_n (q := 778) (i := 3) C dL_law_777 rfl 3 rfl rfl ?_
            refine x_iconst (q := 779) (z := 3) C dL_law_778 rfl rfl ?_
            refine x_iadd (q := 780) C dL_law_779  rfl ?_
            obtain ⟨o209, h⟩ := h
            refine x_sld (q := 781) C hX hbl hbA dL_law_780 o209 hL31 rfl ?_
            obtain ⟨o210, h⟩ := h
            refine x_if_eq (q := 784) (tgt := 788) C dL_law_781 rfl o210 rfl (fun c211 => ?_) (fun c211 => ?_)
            · have h := h.1 c211
              refine x_iconst (q := 789) (z := 0) C dL_law_788 rfl rfl ?_
              refine x_virI (q := 792) C (Nat.le_of_ble_eq_true rfl) ly_0 rfl ck_RL_105 vk_X9_drops (m_X9_drops l hI h) ⟨⟨rfl, rfl⟩, ⟨Nat.le_of_ble_eq_true rfl, Nat.le_of_ble_eq_true rfl⟩, ⟨Nat.le_refl _, Nat.le_refl _⟩⟩ dL_law_789 rfl rfl (Nat.le_of_ble_eq_true rfl) rfl (fun z212 σ212 h => ?_)
              refine x_aload_n (q := 793) (i := 2) C dL_law_792 rfl 2 rfl rfl ?_
              refine x_aload_n (q := 794) (i := 0) C dL_law_793 rfl 0 rfl rfl ?_
              refine x_iload_n (q := 795) (i := 3) C dL_law_794 rfl 3 rfl rfl ?_
              refine x_iconst (q := 796) (z := 1) C dL_law_795 rfl rfl ?_
              refine x_iadd (q := 797) C dL_law_796  rfl ?_
              refine x_sld (q := 798) C hX hbl hbA dL_law_797 o207 hL31 rfl ?_
              refine x_aload_n (q := 799) (i := 0) C dL_law_798 rfl 0 rfl rfl ?_
              refine x_iload_n (q := 800) (i := 3) C dL_law_799 rfl 3 rfl rfl ?_
              refine x_iconst (q := 801) (z := 2) C dL_law_800 rfl rfl ?_
              refine x_iadd (q := 802) C dL_law_801  rfl ?_
              refine x_sld (q := 803) C hX hbl hbA dL_law_802 o208 hL31 rfl ?_
              refine x_aload_n (q := 804) (i := 0) C dL_law_803 rfl 0 rfl rfl ?_
              refine x_iload_n (q := 805) (i := 3) C dL_law_804 rfl 3 rfl rfl ?_
              refine x_iconst (q := 806) (z := 3) C dL_law_805 rfl rfl ?_
              refine x_iadd (q := 807) C dL_law_806  rfl ?_
              refine x_sld (q := 808) C hX hbl hbA dL_law_807 o209 hL31 rfl ?_
              refine x_if_eq (q := 811) (tgt := 815) C dL_law_808 rfl o210 rfl (fun c213 => ?_) (fun c213 => ?_)
              · have h := h.1 c213
                refine x_iconst (q := 816) (z := 0) C dL_law_815 rfl rfl ?_
                refine x_virI (q := 819) C (Nat.le_of_ble_eq_true rfl) ly_51 rfl ck_RL_109 vk_X10_drops (m_X10_drops l hI h) ⟨⟨rfl, rfl⟩, ⟨Nat.le_of_ble_eq_true rfl, Nat.le_of_ble_eq_true rfl⟩, ⟨Nat.le_refl _, Nat.le_refl _⟩⟩ dL_law_816 rfl rfl (Nat.le_of_ble_eq_true rfl) rfl (fun z214 σ214 h => ?_)
                rw [h.1]
                have h := h.2
                obtain ⟨o215, h⟩ := h
                obtain ⟨o216, h⟩ := h
                refine x_icmp_eq (q := 822) (tgt := 970) C dL_law_819 rfl ⟨o215, o216⟩ rfl (fun c217 => ?_) (fun c217 => ?_)
                · have h := h.1 c217
                  refine x_iinc (q := 973) (z' := v3_1 + 4) (lv' := [(0, .ref b), (1, .ref (ad 0)), (2, .ref (ad 51)), (3, .int (iI (v3_1 + 4)))]) C dL_law_970 3 rfl rfl (Nat.le_of_ble_eq_true rfl) [1, 2, 3, 0] rfl rfl ?_
                  refine x_goto (tgt := 18) C dL_law_973 rfl ?_
                  obtain ⟨n218, hl219, h⟩ := h
                  refine x_sub [0, 1, 2, 3] rfl ?_
                  exact ih1 n218 hl219 _ _ h
                · have h := h.2 c217
                  refine x_iconst (q := 823) (z := 0) C dL_law_822 rfl rfl ?_
                  exact h.elim
              · have h := h.2 c213
                refine x_iconst (q := 812) (z := 1) C dL_law_811 rfl rfl ?_
                refine x_goto (tgt := 816) C dL_law_812 rfl ?_
                refine x_virI (q := 819) C (Nat.le_of_ble_eq_true rfl) ly_51 rfl ck_RL_109 vk_X10_drops (m_X10_drops l hI h) ⟨⟨rfl, rfl⟩, ⟨Nat.le_of_ble_eq_true rfl, Nat.le_of_ble_eq_true rfl⟩, ⟨Nat.le_refl _, Nat.le_refl _⟩⟩ dL_law_816 rfl rfl (Nat.le_of_ble_eq_true rfl) rfl (fun z220 σ220 h => ?_)
                rw [h.1]
                have h := h.2
                obtain ⟨o221, h⟩ := h
                obtain ⟨o222, h⟩ := h
                refine x_icmp_eq (q := 822) (tgt := 970) C dL_law_819 rfl ⟨o221, o222⟩ rfl (fun c223 => ?_) (fun c223 => ?_)
                · have h := h.1 c223
                  refine x_iinc (q := 973) (z' := v3_1 + 4) (lv' := [(0, .ref b), (1, .ref (ad 0)), (2, .ref (ad 51)), (3, .int (iI (v3_1 + 4)))]) C dL_law_970 3 rfl rfl (Nat.le_of_ble_eq_true rfl) [1, 2, 3, 0] rfl rfl ?_
                  refine x_goto (tgt := 18) C dL_law_973 rfl ?_
                  obtain ⟨n224, hl225, h⟩ := h
                  refine x_sub [0, 1, 2, 3] rfl ?_
                  exact ih1 n224 hl225 _ _ h
                · have h := h.2 c223
                  refine x_iconst (q := 823) (z := 0) C dL_law_822 rfl rfl ?_
                  exact h.elim
            · have h := h.2 c211
              refine x_iconst (q := 785) (z := 1) C dL_law_784 rfl rfl ?_
              refine x_goto (tgt := 789) C dL_law_785 rfl ?_
              refine x_virI (q := 792) C (Nat.le_of_ble_eq_true rfl) ly_0 rfl ck_RL_105 vk_X9_drops (m_X9_drops l hI h) ⟨⟨rfl, rfl⟩, ⟨Nat.le_of_ble_eq_true rfl, Nat.le_of_ble_eq_true rfl⟩, ⟨Nat.le_refl _, Nat.le_refl _⟩⟩ dL_law_789 rfl rfl (Nat.le_of_ble_eq_true rfl) rfl (fun z226 σ226 h => ?_)
              refine x_aload_n (q := 793) (i := 2) C dL_law_792 rfl 2 rfl rfl ?_
              refine x_aload_n (q := 794) (i := 0) C dL_law_793 rfl 0 rfl rfl ?_
              refine x_iload_n (q := 795) (i := 3) C dL_law_794 rfl 3 rfl rfl ?_
              refine x_iconst (q := 796) (z := 1) C dL_law_795 rfl rfl ?_
              refine x_iadd (q := 797) C dL_law_796  rfl ?_
              refine x_sld (q := 798) C hX hbl hbA dL_law_797 o207 hL31 rfl ?_
              refine x_aload_n (q := 799) (i := 0) C dL_law_798 rfl 0 rfl rfl ?_
              refine x_iload_n (q := 800) (i := 3) C dL_law_799 rfl 3 rfl rfl ?_
              refine x_iconst (q := 801) (z := 2) C dL_law_800 rfl rfl ?_
              refine x_iadd (q := 802) C dL_law_801  rfl ?_
              refine x_sld (q := 803) C hX hbl hbA dL_law_802 o208 hL31 rfl ?_
              refine x_aload_n (q := 804) (i := 0) C dL_law_803 rfl 0 rfl rfl ?_
              refine x_iload_n (q := 805) (i := 3) C dL_law_804 rfl 3 rfl rfl ?_
              refine x_iconst (q := 806) (z := 3) C dL_law_805 rfl rfl ?_
              refine x_iadd (q := 807) C dL_law_806  rfl ?_
              refine x_sld (q := 808) C hX hbl hbA dL_law_807 o209 hL31 rfl ?_
              refine x_if_eq (q := 811) (tgt := 815) C dL_law_808 rfl o210 rfl (fun c227 => ?_) (fun c227 => ?_)
              · have h := h.1 c227
                refine x_iconst (q := 816) (z := 0) C dL_law_815 rfl rfl ?_
                refine x_virI (q := 819) C (Nat.le_of_ble_eq_true rfl) ly_51 rfl ck_RL_109 vk_X10_drops (m_X10_drops l hI h) ⟨⟨rfl, rfl⟩, ⟨Nat.le_of_ble_eq_true rfl, Nat.le_of_ble_eq_true rfl⟩, ⟨Nat.le_refl _, Nat.le_refl _⟩⟩ dL_law_816 rfl rfl (Nat.le_of_ble_eq_true rfl) rfl (fun z228 σ228 h => ?_)
                rw [h.1]
                have h := h.2
                obtain ⟨o229, h⟩ := h
                obtain ⟨o230, h⟩ := h
                refine x_icmp_eq (q := 822) (tgt := 970) C dL_law_819 rfl ⟨o229, o230⟩ rfl (fun c231 => ?_) (fun c231 => ?_)
                · have h := h.1 c231
                  refine x_iinc (q := 973) (z' := v3_1 + 4) (lv' := [(0, .ref b), (1, .ref (ad 0)), (2, .ref (ad 51)), (3, .int (iI (v3_1 + 4)))]) C dL_law_970 3 rfl rfl (Nat.le_of_ble_eq_true rfl) [1, 2, 3, 0] rfl rfl ?_
                  refine x_goto (tgt := 18) C dL_law_973 rfl ?_
                  obtain ⟨n232, hl233, h⟩ := h
                  refine x_sub [0, 1, 2, 3] rfl ?_
                  exact ih1 n232 hl233 _ _ h
                · have h := h.2 c231
                  refine x_iconst (q := 823) (z := 0) C dL_law_822 rfl rfl ?_
                  exact h.elim
              · have h := h.2 c227
                refine x_iconst (q := 812) (z := 1) C dL_law_811 rfl rfl ?_
                refine x_goto (tgt := 816) C dL_law_812 rfl ?_
                refine x_virI (q := 819) C (Nat.le_of_ble_eq_true rfl) ly_51 rfl ck_RL_109 vk_X10_drops (m_X10_drops l hI h) ⟨⟨rfl, rfl⟩, ⟨Nat.le_of_ble_eq_true rfl, Nat.le_of_ble_eq_true rfl⟩, ⟨Nat.le_refl _, Nat.le_refl _⟩⟩ dL_law_816 rfl rfl (Nat.le_of_ble_eq_true rfl) rfl (fun z234 σ234 h => ?_)
                rw [h.1]
                have h := h.2
                obtain ⟨o235, h⟩ := h
                obtain ⟨o236, h⟩ := h
                refine x_icmp_eq (q := 822) (tgt := 970) C dL_law_819 rfl ⟨o235, o236⟩ rfl (fun c237 => ?_) (fun c237 => ?_)
                · have h := h.1 c237
                  refine x_iinc (q := 973) (z' := v3_1 + 4) (lv' := [(0, .ref b), (1, .ref (ad 0)), (2, .ref (ad 51)), (3, .int (iI (v3_1 + 4)))]) C dL_law_970 3 rfl rfl (Nat.le_of_ble_eq_true rfl) [1, 2, 3, 0] rfl rfl ?_
                  refine x_goto (tgt := 18) C dL_law_973 rfl ?_
                  obtain ⟨n238, hl239, h⟩ := h
                  refine x_sub [0, 1, 2, 3] rfl ?_
                  exact ih1 n238 hl239 _ _ h
                · have h := h.2 c237
                  refine x_iconst (q := 823) (z := 0) C dL_law_822 rfl rfl ?_
                  exact h.elim
          · cases ht
            have h := h.2.2.2.2.2.2.2.2.2.2.2.2.2.2.2.2.2.2.2.2.2.2.2.1 (by omega)
            refine x_aload_n (q := 825) (i := 1) C dL_law_824 rfl 1 rfl rfl ?_
            refine x_aload_n (q := 826) (i := 0) C dL_law_825 rfl 0 rfl rfl ?_
            refine x_iload_n (q := 827) (i := 3) C dL_law_826 rfl 3 rfl rfl ?_
            refine x_iconst (q := 828) (z := 1) C dL_law_827 rfl rfl ?_
            refine x_iadd (q := 829) C dL_law_828  rfl ?_
            obtain ⟨o240, h⟩ := h
            refine x_sld (q := 830) C hX hbl hbA dL_law_829 o240 hL31 rfl ?_
            refine x_i2lr (q := 831) C dL_law_830 rfl ?_
            refine x_bipush (q := 833) (z := 32) C dL_law_831 rfl rfl ?_
            refine x_lshl (q := 834) C dL_law_833 rfl ?_
            refine x_aload_n (q := 835) (i := 0) C dL_law_834 rfl 0 rfl rfl ?_
            refine x_iload_n (q := 836) (i := 3) C dL_law_835 rfl 3 rfl rfl ?_
            refine x_iconst (q := 837) (z := 2) C dL_law_836 rfl rfl ?_
            refine x_iadd (q := 838) C dL_law_837  rfl ?_
            obtain ⟨o241, h⟩ := h
            refine x_sld (q := 839) C hX hbl hbA dL_law_838 o241 hL31 rfl ?_
            refine x_i2lr (q := 840) C dL_law_839 rfl ?_
            refine x_ldc2r (q := 843) (v := 4294967295) C dL_law_840 t5_56 rfl ?_
            refine x_land (q := 844) C dL_law_843 rfl ?_
            refine x_lor (q := 845) C dL_law_844 rfl ?_
            refine x_topl ?_
            refine x_virL (q := 848) C (Nat.le_of_ble_eq_true rfl) ly_0 rfl ck_RL_110 vk_X9_seed (m_X9_seed l hI h) ⟨⟨rfl, rfl⟩, ⟨Nat.le_of_ble_eq_true rfl, Nat.le_of_ble_eq_true rfl⟩, ⟨Nat.le_refl _, Nat.le_refl _⟩⟩ dL_law_845 rfl rfl (Nat.le_of_ble_eq_true rfl) rfl (fun z242 σ242 h => ?_)
            refine x_aload_n (q := 849) (i := 2) C dL_law_848 rfl 2 rfl rfl ?_
            refine x_aload_n (q := 850) (i := 0) C dL_law_849 rfl 0 rfl rfl ?_
            refine x_iload_n (q := 851) (i := 3) C dL_law_850 rfl 3 rfl rfl ?_
            refine x_iconst (q := 852) (z := 1) C dL_law_851 rfl rfl ?_
            refine x_iadd (q := 853) C dL_law_852  rfl ?_
            refine x_sld (q := 854) C hX hbl hbA dL_law_853 o240 hL31 rfl ?_
            refine x_i2lr (q := 855) C dL_law_854 rfl ?_
            refine x_bipush (q := 857) (z := 32) C dL_law_855 rfl rfl ?_
            refine x_lshl (q := 858) C dL_law_857 rfl ?_
            refine x_aload_n (q := 859) (i := 0) C dL_law_858 rfl 0 rfl rfl ?_
            refine x_iload_n (q := 860) (i := 3) C dL_law_859 rfl 3 rfl rfl ?_
            refine x_iconst (q := 861) (z := 2) C dL_law_860 rfl rfl ?_
            refine x_iadd (q := 862) C dL_law_861  rfl ?_
            refine x_sld (q := 863) C hX hbl hbA dL_law_862 o241 hL31 rfl ?_
            refine x_i2lr (q := 864) C dL_law_863 rfl ?_
            refine x_ldc2r (q := 867) (v := 4294967295) C dL_law_864 t5_56 rfl ?_
            refine x_land (q := 868) C dL_law_867 rfl ?_
            refine x_lor (q := 869) C dL_law_868 rfl ?_
            refine x_topl ?_
            refine x_virL (q := 872) C (Nat.le_of_ble_eq_true rfl) ly_51 rfl ck_RL_114 vk_X10_seed (m_X10_seed l hI h) ⟨⟨rfl, rfl⟩, ⟨Nat.le_of_ble_eq_true rfl, Nat.le_of_ble_eq_true rfl⟩, ⟨Nat.le_refl _, Nat.le_refl _⟩⟩ dL_law_869 rfl rfl (Nat.le_of_ble_eq_true rfl) rfl (fun z243 σ243 h => ?_)
            refine x_lcmp (q := 873) C dL_law_872  rfl ?_
            obtain ⟨o244, h⟩ := h
            refine x_if_eq (q := 876) (tgt := 970) C dL_law_873 rfl o244 rfl (fun c245 => ?_) (fun c245 => ?_)
            · have h := h.1 c245
              refine x_iinc (q := 973) (z' := v3_1 + 4) (lv' := [(0, .ref b), (1, .ref (ad 0)), (2, .ref (ad 51)), (3, .int (iI (v3_1 + 4)))]) C dL_law_970 3 rfl rfl (Nat.le_of_ble_eq_true rfl) [1, 2, 3, 0] rfl rfl ?_
              refine x_goto (tgt := 18) C dL_law_973 rfl ?_
              obtain ⟨n246, hl247, h⟩ := h
              refine x_sub [0, 1, 2, 3] rfl ?_
              exact ih1 n246 hl247 _ _ h
            · have h := h.2 c245
              refine x_iconst (q := 877) (z := 0) C dL_law_876 rfl rfl ?_
              exact h.elim
          · cases ht
            have h := h.2.2.2.2.2.2.2.2.2.2.2.2.2.2.2.2.2.2.2.2.2.2.2.2.1 (by omega)
            refine x_aload_n (q := 879) (i := 1) C dL_law_878 rfl 1 rfl rfl ?_
            refine x_aload_n (q := 880) (i := 0) C dL_law_879 rfl 0 rfl rfl ?_
            refine x_iload_n (q := 881) (i := 3) C dL_law_880 rfl 3 rfl rfl ?_
            refine x_iconst (q := 882) (z := 1) C dL_law_881 rfl rfl ?_
            refine x_iadd (q := 883) C dL_law_882  rfl ?_
            obtain ⟨o248, h⟩ := h
            refine x_sld (q := 884) C hX hbl hbA dL_law_883 o248 hL31 rfl ?_
            refine x_virI (q := 887) C (Nat.le_of_ble_eq_true rfl) ly_0 rfl ck_RL_115 vk_X9_years (m_X9_years l hI h) ⟨⟨rfl, rfl⟩, ⟨Nat.le_of_ble_eq_true rfl, Nat.le_of_ble_eq_true rfl⟩, ⟨Nat.le_refl _, Nat.le_refl _⟩⟩ dL_law_884 rfl rfl (Nat.le_of_ble_eq_true rfl) rfl (fun z249 σ249 h => ?_)
            refine x_aload_n (q := 888) (i := 2) C dL_law_887 rfl 2 rfl rfl ?_
            refine x_aload_n (q := 889) (i := 0) C dL_law_888 rfl 0 rfl rfl ?_
            refine x_iload_n (q := 890) (i := 3) C dL_law_889 rfl 3 rfl rfl ?_
            refine x_iconst (q := 891) (z := 1) C dL_law_890 rfl rfl ?_
            refine x_iadd (q := 892) C dL_law_891  rfl ?_
            refine x_sld (q := 893) C hX hbl hbA dL_law_892 o248 hL31 rfl ?_
            refine x_virI (q := 896) C (Nat.le_of_ble_eq_true rfl) ly_51 rfl ck_RL_118 vk_X10_years (m_X10_years l hI h) ⟨⟨rfl, rfl⟩, ⟨Nat.le_of_ble_eq_true rfl, Nat.le_of_ble_eq_true rfl⟩, ⟨Nat.le_refl _, Nat.le_refl _⟩⟩ dL_law_893 rfl rfl (Nat.le_of_ble_eq_true rfl) rfl (fun z250 σ250 h => ?_)
            obtain ⟨o251, h⟩ := h
            obtain ⟨o252, h⟩ := h
            refine x_icmp_eq (q := 899) (tgt := 970) C dL_law_896 rfl ⟨o251, o252⟩ rfl (fun c253 => ?_) (fun c253 => ?_)
            · have h := h.1 c253
              refine x_iinc (q := 973) (z' := v3_1 + 4) (lv' := [(0, .ref b), (1, .ref (ad 0)), (2, .ref (ad 51)), (3, .int (iI (v3_1 + 4)))]) C dL_law_970 3 rfl rfl (Nat.le_of_ble_eq_true rfl) [1, 2, 3, 0] rfl rfl ?_
              refine x_goto (tgt := 18) C dL_law_973 rfl ?_
              obtain ⟨n254, hl255, h⟩ := h
              refine x_sub [0, 1, 2, 3] rfl ?_
              exact ih1 n254 hl255 _ _ h
            · have h := h.2 c253
              refine x_iconst (q := 900) (z := 0) C dL_law_899 rfl rfl ?_
              exact h.elim
          · cases ht
            have h := h.2.2.2.2.2.2.2.2.2.2.2.2.2.2.2.2.2.2.2.2.2.2.2.2.2.1 (by omega)
            refine x_aload_n (q := 902) (i := 1) C dL_law_901 rfl 1 rfl rfl ?_
            refine x_aload_n (q := 903) (i := 0) C dL_law_902 rfl 0 rfl rfl ?_
            refine x_iload_n (q := 904) (i := 3) C dL_law_903 rfl 3 rfl rfl ?_
            refine x_iconst (q := 905) (z := 1) C dL_law_904 rfl rfl ?_
            refine x_iadd (q := 906) C dL_law_905  rfl ?_
            obtain ⟨o256, h⟩ := h
            refine x_sld (q := 907) C hX hbl hbA dL_law_906 o256 hL31 rfl ?_
            refine x_virI (q := 910) C (Nat.le_of_ble_eq_true rfl) ly_0 rfl ck_RL_119 vk_X9_keep (m_X9_keep l hI h) ⟨⟨rfl, rfl⟩, ⟨Nat.le_of_ble_eq_true rfl, Nat.le_of_ble_eq_true rfl⟩, ⟨Nat.le_refl _, Nat.le_refl _⟩⟩ dL_law_907 rfl rfl (Nat.le_of_ble_eq_true rfl) rfl (fun z257 σ257 h => ?_)
            refine x_aload_n (q := 911) (i := 2) C dL_law_910 rfl 2 rfl rfl ?_
            refine x_aload_n (q := 912) (i := 0) C dL_law_911 rfl 0 rfl rfl ?_
            refine x_iload_n (q := 913) (i := 3) C dL_law_912 rfl 3 rfl rfl ?_
            refine x_iconst (q := 914) (z := 1) C dL_law_913 rfl rfl ?_
            refine x_iadd (q := 915) C dL_law_914  rfl ?_
            refine x_sld (q := 916) C hX hbl hbA dL_law_915 o256 hL31 rfl ?_
            refine x_virI (q := 919) C (Nat.le_of_ble_eq_true rfl) ly_51 rfl ck_RL_122 vk_X10_keep (m_X10_keep l hI h) ⟨⟨rfl, rfl⟩, ⟨Nat.le_of_ble_eq_true rfl, Nat.le_of_ble_eq_true rfl⟩, ⟨Nat.le_refl _, Nat.le_refl _⟩⟩ dL_law_916 rfl rfl (Nat.le_of_ble_eq_true rfl) rfl (fun z258 σ258 h => ?_)
            obtain ⟨o259, h⟩ := h
            obtain ⟨o260, h⟩ := h
            refine x_icmp_eq (q := 922) (tgt := 970) C dL_law_919 rfl ⟨o259, o260⟩ rfl (fun c261 => ?_) (fun c261 => ?_)
            · have h := h.1 c261
              refine x_iinc (q := 973) (z' := v3_1 + 4) (lv' := [(0, .ref b), (1, .ref (ad 0)), (2, .ref (ad 51)), (3, .int (iI (v3_1 + 4)))]) C dL_law_970 3 rfl rfl (Nat.le_of_ble_eq_true rfl) [1, 2, 3, 0] rfl rfl ?_
              refine x_goto (tgt := 18) C dL_law_973 rfl ?_
              obtain ⟨n262, hl263, h⟩ := h
              refine x_sub [0, 1, 2, 3] rfl ?_
              exact ih1 n262 hl263 _ _ h
            · have h := h.2 c261
              refine x_iconst (q := 923) (z := 0) C dL_law_922 rfl rfl ?_
              exact h.elim
          · cases ht
            have h := h.2.2.2.2.2.2.2.2.2.2.2.2.2.2.2.2.2.2.2.2.2.2.2.2.2.2.1 (by omega)
            refine x_aload_n (q := 925) (i := 1) C dL_law_924 rfl 1 rfl rfl ?_
            refine x_aload_n (q := 926) (i := 0) C dL_law_925 rfl 0 rfl rfl ?_
            refine x_iload_n (q := 927) (i := 3) C dL_law_926 rfl 3 rfl rfl ?_
            refine x_iconst (q := 928) (z := 1) C dL_law_927 rfl rfl ?_
            refine x_iadd (q := 929) C dL_law_928  rfl ?_
            obtain ⟨o264, h⟩ := h
            refine x_sld (q := 930) C hX hbl hbA dL_law_929 o264 hL31 rfl ?_
            refine x_virI (q := 933) C (Nat.le_of_ble_eq_true rfl) ly_0 rfl ck_RL_123 vk_X9_again (m_X9_again l hI h) ⟨⟨rfl, rfl⟩, ⟨Nat.le_of_ble_eq_true rfl, Nat.le_of_ble_eq_true rfl⟩, ⟨Nat.le_refl _, Nat.le_refl _⟩⟩ dL_law_930 rfl rfl (Nat.le_of_ble_eq_true rfl) rfl (fun z265 σ265 h => ?_)
            refine x_aload_n (q := 934) (i := 2) C dL_law_933 rfl 2 rfl rfl ?_
            refine x_aload_n (q := 935) (i := 0) C dL_law_934 rfl 0 rfl rfl ?_
            refine x_iload_n (q := 936) (i := 3) C dL_law_935 rfl 3 rfl rfl ?_
            refine x_iconst (q := 937) (z := 1) C dL_law_936 rfl rfl ?_
            refine x_iadd (q := 938) C dL_law_937  rfl ?_
            refine x_sld (q := 939) C hX hbl hbA dL_law_938 o264 hL31 rfl ?_
            refine x_virI (q := 942) C (Nat.le_of_ble_eq_true rfl) ly_51 rfl ck_RL_126 vk_X10_again (m_X10_again l hI h) ⟨⟨rfl, rfl⟩, ⟨Nat.le_of_ble_eq_true rfl, Nat.le_of_ble_eq_true rfl⟩, ⟨Nat.le_refl _, Nat.le_refl _⟩⟩ dL_law_939 rfl rfl (Nat.le_of_ble_eq_true rfl) rfl (fun z266 σ266 h => ?_)
            obtain ⟨o267, h⟩ := h
            obtain ⟨o268, h⟩ := h
            refine x_icmp_eq (q := 945) (tgt := 970) C dL_law_942 rfl ⟨o267, o268⟩ rfl (fun c269 => ?_) (fun c269 => ?_)
            · have h := h.1 c269
              refine x_iinc (q := 973) (z' := v3_1 + 4) (lv' := [(0, .ref b), (1, .ref (ad 0)), (2, .ref (ad 51)), (3, .int (iI (v3_1 + 4)))]) C dL_law_970 3 rfl rfl (Nat.le_of_ble_eq_true rfl) [1, 2, 3, 0] rfl rfl ?_
              refine x_goto (tgt := 18) C dL_law_973 rfl ?_
              obtain ⟨n270, hl271, h⟩ := h
              refine x_sub [0, 1, 2, 3] rfl ?_
              exact ih1 n270 hl271 _ _ h
            · have h := h.2 c269
              refine x_iconst (q := 946) (z := 0) C dL_law_945 rfl rfl ?_
              exact h.elim
          · cases ht
            have h := h.2.2.2.2.2.2.2.2.2.2.2.2.2.2.2.2.2.2.2.2.2.2.2.2.2.2.2 (by omega)
            refine x_aload_n (q := 948) (i := 1) C dL_law_947 rfl 1 rfl rfl ?_
            refine x_aload_n (q := 949) (i := 0) C dL_law_948 rfl 0 rfl rfl ?_
            refine x_iload_n (q := 950) (i := 3) C dL_law_949 rfl 3 rfl rfl ?_
            refine x_iconst (q := 951) (z := 1) C dL_law_950 rfl rfl ?_
            refine x_iadd (q := 952) C dL_law_951  rfl ?_
            obtain ⟨o272, h⟩ := h
            refine x_sld (q := 953) C hX hbl hbA dL_law_952 o272 hL31 rfl ?_
            refine x_virI (q := 956) C (Nat.le_of_ble_eq_true rfl) ly_0 rfl ck_RL_127 vk_X9_count (m_X9_count l hI h) ⟨⟨rfl, rfl⟩, ⟨Nat.le_of_ble_eq_true rfl, Nat.le_of_ble_eq_true rfl⟩, ⟨Nat.le_refl _, Nat.le_refl _⟩⟩ dL_law_953 rfl rfl (Nat.le_of_ble_eq_true rfl) rfl (fun z273 σ273 h => ?_)
            refine x_aload_n (q := 957) (i := 2) C dL_law_956 rfl 2 rfl rfl ?_
            refine x_aload_n (q := 958) (i := 0) C dL_law_957 rfl 0 rfl rfl ?_
            refine x_iload_n (q := 959) (i := 3) C dL_law_958 rfl 3 rfl rfl ?_
            refine x_iconst (q := 960) (z := 1) C dL_law_959 rfl rfl ?_
            refine x_iadd (q := 961) C dL_law_960  rfl ?_
            refine x_sld (q := 962) C hX hbl hbA dL_law_961 o272 hL31 rfl ?_
            refine x_virI (q := 965) C (Nat.le_of_ble_eq_true rfl) ly_51 rfl ck_RL_130 vk_X10_count (m_X10_count l hI h) ⟨⟨rfl, rfl⟩, ⟨Nat.le_of_ble_eq_true rfl, Nat.le_of_ble_eq_true rfl⟩, ⟨Nat.le_refl _, Nat.le_refl _⟩⟩ dL_law_962 rfl rfl (Nat.le_of_ble_eq_true rfl) rfl (fun z274 σ274 h => ?_)
            rw [h.1]
            have h := h.2
            obtain ⟨o275, h⟩ := h
            obtain ⟨o276, h⟩ := h
            refine x_icmp_eq (q := 968) (tgt := 970) C dL_law_965 rfl ⟨o275, o276⟩ rfl (fun c277 => ?_) (fun c277 => ?_)
            · have h := h.1 c277
              refine x_iinc (q := 973) (z' := v3_1 + 4) (lv' := [(0, .ref b), (1, .ref (ad 0)), (2, .ref (ad 51)), (3, .int (iI (v3_1 + 4)))]) C dL_law_970 3 rfl rfl (Nat.le_of_ble_eq_true rfl) [1, 2, 3, 0] rfl rfl ?_
              refine x_goto (tgt := 18) C dL_law_973 rfl ?_
              obtain ⟨n278, hl279, h⟩ := h
              refine x_sub [0, 1, 2, 3] rfl ?_
              exact ih1 n278 hl279 _ _ h
            · have h := h.2 c277
              refine x_iconst (q := 969) (z := 0) C dL_law_968 rfl rfl ?_
              exact h.elim
          · simp at ht
  exact L1 n01 0 σ h01
