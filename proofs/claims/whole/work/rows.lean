section
-- ===== PART A: goes FIRST, ahead of the names: the tables' words, and 'selects' of the private methods out of them =====
/-- a private method of a class that the tables say can be made, by its rows of tables_1 -/
def lw_okq (q : MethodName × Nat) : Prop := (q.1.cls ≠ "java/lang/invoke/MethodHandle" ∧ q.1.cls ≠ "java/lang/invoke/VarHandle") ∧ Cond.instantiable q.1.cls q.2 ∈ tables_1 ∧ Cond.privateMethod q.1 ∈ tables_1 ∧ Cond.instanceMethod q.1 ∈ tables_1
theorem lw_p0 : lw_okq (⟨"FanBlades$View", "lay", "(I[I)V"⟩, 5) := ⟨⟨by decide +kernel, by decide +kernel⟩, List.mem_of_getElem? (i := 67) (by decide +kernel), List.mem_of_getElem? (i := 349) (by decide +kernel), List.mem_of_getElem? (i := 350) (by decide +kernel)⟩
theorem lw_p1 : lw_okq (⟨"FanBlades$View", "liesUpper", "(I)Z"⟩, 5) := ⟨⟨by decide +kernel, by decide +kernel⟩, List.mem_of_getElem? (i := 67) (by decide +kernel), List.mem_of_getElem? (i := 360) (by decide +kernel), List.mem_of_getElem? (i := 361) (by decide +kernel)⟩
theorem lw_p2 : lw_okq (⟨"FanBlades$View", "markAt", "(I)I"⟩, 5) := ⟨⟨by decide +kernel, by decide +kernel⟩, List.mem_of_getElem? (i := 67) (by decide +kernel), List.mem_of_getElem? (i := 381) (by decide +kernel), List.mem_of_getElem? (i := 382) (by decide +kernel)⟩
theorem lw_p3 : lw_okq (⟨"FanBlades$Acts", "forgetFirst", "()V"⟩, 2) := ⟨⟨by decide +kernel, by decide +kernel⟩, List.mem_of_getElem? (i := 123) (by decide +kernel), List.mem_of_getElem? (i := 423) (by decide +kernel), List.mem_of_getElem? (i := 424) (by decide +kernel)⟩
theorem lw_p4 : lw_okq (⟨"FanBlades$Word", "isReadAt", "(LFanBlades$View;II)Z"⟩, 2) := ⟨⟨by decide +kernel, by decide +kernel⟩, List.mem_of_getElem? (i := 110) (by decide +kernel), List.mem_of_getElem? (i := 498) (by decide +kernel), List.mem_of_getElem? (i := 499) (by decide +kernel)⟩
theorem lw_p5 : lw_okq (⟨"FanBlades", "comesTrue", "(III)Z"⟩, 14) := ⟨⟨by decide +kernel, by decide +kernel⟩, List.mem_of_getElem? (i := 16) (by decide +kernel), List.mem_of_getElem? (i := 560) (by decide +kernel), List.mem_of_getElem? (i := 561) (by decide +kernel)⟩
theorem lw_p6 : lw_okq (⟨"FanBlades", "shareOfPlace", "(I)I"⟩, 14) := ⟨⟨by decide +kernel, by decide +kernel⟩, List.mem_of_getElem? (i := 16) (by decide +kernel), List.mem_of_getElem? (i := 602) (by decide +kernel), List.mem_of_getElem? (i := 603) (by decide +kernel)⟩
theorem lw_p7 : lw_okq (⟨"FanBlades", "weighPair", "(III)V"⟩, 14) := ⟨⟨by decide +kernel, by decide +kernel⟩, List.mem_of_getElem? (i := 16) (by decide +kernel), List.mem_of_getElem? (i := 616) (by decide +kernel), List.mem_of_getElem? (i := 617) (by decide +kernel)⟩
theorem lw_p8 : lw_okq (⟨"FanBlades", "weightOf", "(II)I"⟩, 14) := ⟨⟨by decide +kernel, by decide +kernel⟩, List.mem_of_getElem? (i := 16) (by decide +kernel), List.mem_of_getElem? (i := 624) (by decide +kernel), List.mem_of_getElem? (i := 625) (by decide +kernel)⟩
theorem lw_p9 : lw_okq (⟨"FanBlades", "passYear", "(I)V"⟩, 14) := ⟨⟨by decide +kernel, by decide +kernel⟩, List.mem_of_getElem? (i := 16) (by decide +kernel), List.mem_of_getElem? (i := 643) (by decide +kernel), List.mem_of_getElem? (i := 644) (by decide +kernel)⟩
theorem lw_p10 : lw_okq (⟨"FanBladesModel", "readText", "()I"⟩, 21) := ⟨⟨by decide +kernel, by decide +kernel⟩, List.mem_of_getElem? (i := 678) (by decide +kernel), List.mem_of_getElem? (i := 764) (by decide +kernel), List.mem_of_getElem? (i := 765) (by decide +kernel)⟩
theorem lw_p11 : lw_okq (⟨"FanBladesModel", "isBlade", "(I)Z"⟩, 21) := ⟨⟨by decide +kernel, by decide +kernel⟩, List.mem_of_getElem? (i := 678) (by decide +kernel), List.mem_of_getElem? (i := 790) (by decide +kernel), List.mem_of_getElem? (i := 791) (by decide +kernel)⟩
theorem lw_p12 : lw_okq (⟨"FanBladesModel", "beginOf", "(II)I"⟩, 21) := ⟨⟨by decide +kernel, by decide +kernel⟩, List.mem_of_getElem? (i := 678) (by decide +kernel), List.mem_of_getElem? (i := 794) (by decide +kernel), List.mem_of_getElem? (i := 795) (by decide +kernel)⟩
theorem lw_p13 : lw_okq (⟨"FanBladesModel", "wideOf", "(I)I"⟩, 21) := ⟨⟨by decide +kernel, by decide +kernel⟩, List.mem_of_getElem? (i := 678) (by decide +kernel), List.mem_of_getElem? (i := 798) (by decide +kernel), List.mem_of_getElem? (i := 799) (by decide +kernel)⟩
theorem lw_p14 : lw_okq (⟨"FanBladesModel", "cellsSeen", "(III)I"⟩, 21) := ⟨⟨by decide +kernel, by decide +kernel⟩, List.mem_of_getElem? (i := 678) (by decide +kernel), List.mem_of_getElem? (i := 802) (by decide +kernel), List.mem_of_getElem? (i := 803) (by decide +kernel)⟩
theorem lw_p15 : lw_okq (⟨"FanBladesModel", "bladeAt", "(IIII)I"⟩, 21) := ⟨⟨by decide +kernel, by decide +kernel⟩, List.mem_of_getElem? (i := 678) (by decide +kernel), List.mem_of_getElem? (i := 806) (by decide +kernel), List.mem_of_getElem? (i := 807) (by decide +kernel)⟩
def lw_privs_1 : List (MethodName × Nat) := [(⟨"FanBlades$View", "lay", "(I[I)V"⟩, 5), (⟨"FanBlades$View", "liesUpper", "(I)Z"⟩, 5), (⟨"FanBlades$View", "markAt", "(I)I"⟩, 5), (⟨"FanBlades$Acts", "forgetFirst", "()V"⟩, 2), (⟨"FanBlades$Word", "isReadAt", "(LFanBlades$View;II)Z"⟩, 2), (⟨"FanBlades", "comesTrue", "(III)Z"⟩, 14), (⟨"FanBlades", "shareOfPlace", "(I)I"⟩, 14), (⟨"FanBlades", "weighPair", "(III)V"⟩, 14), (⟨"FanBlades", "weightOf", "(II)I"⟩, 14), (⟨"FanBlades", "passYear", "(I)V"⟩, 14), (⟨"FanBladesModel", "readText", "()I"⟩, 21), (⟨"FanBladesModel", "isBlade", "(I)Z"⟩, 21), (⟨"FanBladesModel", "beginOf", "(II)I"⟩, 21), (⟨"FanBladesModel", "wideOf", "(I)I"⟩, 21), (⟨"FanBladesModel", "cellsSeen", "(III)I"⟩, 21), (⟨"FanBladesModel", "bladeAt", "(IIII)I"⟩, 21)]
theorem lw_r1 : ∀ q ∈ lw_privs_1, lw_okq q := List.forall_mem_cons.mpr ⟨lw_p0, List.forall_mem_cons.mpr ⟨lw_p1, List.forall_mem_cons.mpr ⟨lw_p2, List.forall_mem_cons.mpr ⟨lw_p3, List.forall_mem_cons.mpr ⟨lw_p4, List.forall_mem_cons.mpr ⟨lw_p5, List.forall_mem_cons.mpr ⟨lw_p6, List.forall_mem_cons.mpr ⟨lw_p7, List.forall_mem_cons.mpr ⟨lw_p8, List.forall_mem_cons.mpr ⟨lw_p9, List.forall_mem_cons.mpr ⟨lw_p10, List.forall_mem_cons.mpr ⟨lw_p11, List.forall_mem_cons.mpr ⟨lw_p12, List.forall_mem_cons.mpr ⟨lw_p13, List.forall_mem_cons.mpr ⟨lw_p14, List.forall_mem_cons.mpr ⟨lw_p15, fun _ h => absurd h List.not_mem_nil⟩⟩⟩⟩⟩⟩⟩⟩⟩⟩⟩⟩⟩⟩⟩⟩
theorem lw_p16 : lw_okq (⟨"FanBladesModel", "cellAt", "(III)I"⟩, 21) := ⟨⟨by decide +kernel, by decide +kernel⟩, List.mem_of_getElem? (i := 678) (by decide +kernel), List.mem_of_getElem? (i := 813) (by decide +kernel), List.mem_of_getElem? (i := 814) (by decide +kernel)⟩
theorem lw_p17 : lw_okq (⟨"FanBladesModel", "isGap", "(I)Z"⟩, 21) := ⟨⟨by decide +kernel, by decide +kernel⟩, List.mem_of_getElem? (i := 678) (by decide +kernel), List.mem_of_getElem? (i := 817) (by decide +kernel), List.mem_of_getElem? (i := 818) (by decide +kernel)⟩
theorem lw_p18 : lw_okq (⟨"FanBladesModel", "gapMany", "()I"⟩, 21) := ⟨⟨by decide +kernel, by decide +kernel⟩, List.mem_of_getElem? (i := 678) (by decide +kernel), List.mem_of_getElem? (i := 821) (by decide +kernel), List.mem_of_getElem? (i := 822) (by decide +kernel)⟩
theorem lw_p19 : lw_okq (⟨"FanBladesModel", "letterAt", "(IIII)I"⟩, 21) := ⟨⟨by decide +kernel, by decide +kernel⟩, List.mem_of_getElem? (i := 678) (by decide +kernel), List.mem_of_getElem? (i := 830) (by decide +kernel), List.mem_of_getElem? (i := 831) (by decide +kernel)⟩
theorem lw_p20 : lw_okq (⟨"FanBladesModel", "canSpread", "(II)Z"⟩, 21) := ⟨⟨by decide +kernel, by decide +kernel⟩, List.mem_of_getElem? (i := 678) (by decide +kernel), List.mem_of_getElem? (i := 838) (by decide +kernel), List.mem_of_getElem? (i := 839) (by decide +kernel)⟩
theorem lw_p21 : lw_okq (⟨"FanBladesModel", "isFree", "(I)Z"⟩, 21) := ⟨⟨by decide +kernel, by decide +kernel⟩, List.mem_of_getElem? (i := 678) (by decide +kernel), List.mem_of_getElem? (i := 842) (by decide +kernel), List.mem_of_getElem? (i := 843) (by decide +kernel)⟩
theorem lw_p22 : lw_okq (⟨"FanBladesModel", "keepAct", "()V"⟩, 21) := ⟨⟨by decide +kernel, by decide +kernel⟩, List.mem_of_getElem? (i := 678) (by decide +kernel), List.mem_of_getElem? (i := 846) (by decide +kernel), List.mem_of_getElem? (i := 847) (by decide +kernel)⟩
theorem lw_p23 : lw_okq (⟨"FanBladesModel", "canFold", "(II)Z"⟩, 21) := ⟨⟨by decide +kernel, by decide +kernel⟩, List.mem_of_getElem? (i := 678) (by decide +kernel), List.mem_of_getElem? (i := 854) (by decide +kernel), List.mem_of_getElem? (i := 855) (by decide +kernel)⟩
theorem lw_p24 : lw_okq (⟨"FanBladesModel", "flingOn", "(I)I"⟩, 21) := ⟨⟨by decide +kernel, by decide +kernel⟩, List.mem_of_getElem? (i := 678) (by decide +kernel), List.mem_of_getElem? (i := 862) (by decide +kernel), List.mem_of_getElem? (i := 863) (by decide +kernel)⟩
theorem lw_p25 : lw_okq (⟨"FanBladesModel", "gapsOf", "(I)I"⟩, 21) := ⟨⟨by decide +kernel, by decide +kernel⟩, List.mem_of_getElem? (i := 678) (by decide +kernel), List.mem_of_getElem? (i := 870) (by decide +kernel), List.mem_of_getElem? (i := 871) (by decide +kernel)⟩
theorem lw_p26 : lw_okq (⟨"FanBladesModel", "snapOn", "(I)V"⟩, 21) := ⟨⟨by decide +kernel, by decide +kernel⟩, List.mem_of_getElem? (i := 678) (by decide +kernel), List.mem_of_getElem? (i := 874) (by decide +kernel), List.mem_of_getElem? (i := 875) (by decide +kernel)⟩
theorem lw_p27 : lw_okq (⟨"FanBladesModel", "readsOn", "(III)I"⟩, 21) := ⟨⟨by decide +kernel, by decide +kernel⟩, List.mem_of_getElem? (i := 678) (by decide +kernel), List.mem_of_getElem? (i := 886) (by decide +kernel), List.mem_of_getElem? (i := 887) (by decide +kernel)⟩
theorem lw_p28 : lw_okq (⟨"FanBladesModel", "isReadAt", "(IIII)Z"⟩, 21) := ⟨⟨by decide +kernel, by decide +kernel⟩, List.mem_of_getElem? (i := 678) (by decide +kernel), List.mem_of_getElem? (i := 890) (by decide +kernel), List.mem_of_getElem? (i := 891) (by decide +kernel)⟩
theorem lw_p29 : lw_okq (⟨"FanBladesModel", "waysMany", "()I"⟩, 21) := ⟨⟨by decide +kernel, by decide +kernel⟩, List.mem_of_getElem? (i := 678) (by decide +kernel), List.mem_of_getElem? (i := 898) (by decide +kernel), List.mem_of_getElem? (i := 899) (by decide +kernel)⟩
theorem lw_p30 : lw_okq (⟨"FanBladesModel", "layWay", "(I)Z"⟩, 21) := ⟨⟨by decide +kernel, by decide +kernel⟩, List.mem_of_getElem? (i := 678) (by decide +kernel), List.mem_of_getElem? (i := 902) (by decide +kernel), List.mem_of_getElem? (i := 903) (by decide +kernel)⟩
theorem lw_p31 : lw_okq (⟨"FanBladesModel", "farOf", "()I"⟩, 21) := ⟨⟨by decide +kernel, by decide +kernel⟩, List.mem_of_getElem? (i := 678) (by decide +kernel), List.mem_of_getElem? (i := 906) (by decide +kernel), List.mem_of_getElem? (i := 907) (by decide +kernel)⟩
def lw_privs_2 : List (MethodName × Nat) := [(⟨"FanBladesModel", "cellAt", "(III)I"⟩, 21), (⟨"FanBladesModel", "isGap", "(I)Z"⟩, 21), (⟨"FanBladesModel", "gapMany", "()I"⟩, 21), (⟨"FanBladesModel", "letterAt", "(IIII)I"⟩, 21), (⟨"FanBladesModel", "canSpread", "(II)Z"⟩, 21), (⟨"FanBladesModel", "isFree", "(I)Z"⟩, 21), (⟨"FanBladesModel", "keepAct", "()V"⟩, 21), (⟨"FanBladesModel", "canFold", "(II)Z"⟩, 21), (⟨"FanBladesModel", "flingOn", "(I)I"⟩, 21), (⟨"FanBladesModel", "gapsOf", "(I)I"⟩, 21), (⟨"FanBladesModel", "snapOn", "(I)V"⟩, 21), (⟨"FanBladesModel", "readsOn", "(III)I"⟩, 21), (⟨"FanBladesModel", "isReadAt", "(IIII)Z"⟩, 21), (⟨"FanBladesModel", "waysMany", "()I"⟩, 21), (⟨"FanBladesModel", "layWay", "(I)Z"⟩, 21), (⟨"FanBladesModel", "farOf", "()I"⟩, 21)]
theorem lw_r2 : ∀ q ∈ lw_privs_2, lw_okq q := List.forall_mem_cons.mpr ⟨lw_p16, List.forall_mem_cons.mpr ⟨lw_p17, List.forall_mem_cons.mpr ⟨lw_p18, List.forall_mem_cons.mpr ⟨lw_p19, List.forall_mem_cons.mpr ⟨lw_p20, List.forall_mem_cons.mpr ⟨lw_p21, List.forall_mem_cons.mpr ⟨lw_p22, List.forall_mem_cons.mpr ⟨lw_p23, List.forall_mem_cons.mpr ⟨lw_p24, List.forall_mem_cons.mpr ⟨lw_p25, List.forall_mem_cons.mpr ⟨lw_p26, List.forall_mem_cons.mpr ⟨lw_p27, List.forall_mem_cons.mpr ⟨lw_p28, List.forall_mem_cons.mpr ⟨lw_p29, List.forall_mem_cons.mpr ⟨lw_p30, List.forall_mem_cons.mpr ⟨lw_p31, fun _ h => absurd h List.not_mem_nil⟩⟩⟩⟩⟩⟩⟩⟩⟩⟩⟩⟩⟩⟩⟩⟩
theorem lw_p32 : lw_okq (⟨"FanBladesModel", "figuresOf", "(I)I"⟩, 21) := ⟨⟨by decide +kernel, by decide +kernel⟩, List.mem_of_getElem? (i := 678) (by decide +kernel), List.mem_of_getElem? (i := 910) (by decide +kernel), List.mem_of_getElem? (i := 911) (by decide +kernel)⟩
theorem lw_p33 : lw_okq (⟨"FanBladesModel", "timesSeen", "(I)I"⟩, 21) := ⟨⟨by decide +kernel, by decide +kernel⟩, List.mem_of_getElem? (i := 678) (by decide +kernel), List.mem_of_getElem? (i := 918) (by decide +kernel), List.mem_of_getElem? (i := 919) (by decide +kernel)⟩
theorem lw_p34 : lw_okq (⟨"FanBladesModel", "layTrial", "()V"⟩, 21) := ⟨⟨by decide +kernel, by decide +kernel⟩, List.mem_of_getElem? (i := 678) (by decide +kernel), List.mem_of_getElem? (i := 931) (by decide +kernel), List.mem_of_getElem? (i := 932) (by decide +kernel)⟩
theorem lw_p35 : lw_okq (⟨"FanBladesModel", "tryThing", "(III)Z"⟩, 21) := ⟨⟨by decide +kernel, by decide +kernel⟩, List.mem_of_getElem? (i := 678) (by decide +kernel), List.mem_of_getElem? (i := 935) (by decide +kernel), List.mem_of_getElem? (i := 936) (by decide +kernel)⟩
theorem lw_p36 : lw_okq (⟨"FanBladesModel", "wide", "(I)I"⟩, 21) := ⟨⟨by decide +kernel, by decide +kernel⟩, List.mem_of_getElem? (i := 678) (by decide +kernel), List.mem_of_getElem? (i := 939) (by decide +kernel), List.mem_of_getElem? (i := 940) (by decide +kernel)⟩
theorem lw_p37 : lw_okq (⟨"FanBladesModel", "mayBe", "()Z"⟩, 21) := ⟨⟨by decide +kernel, by decide +kernel⟩, List.mem_of_getElem? (i := 678) (by decide +kernel), List.mem_of_getElem? (i := 955) (by decide +kernel), List.mem_of_getElem? (i := 956) (by decide +kernel)⟩
theorem lw_p38 : lw_okq (⟨"FanBladesModel", "placesSeen", "(II)I"⟩, 21) := ⟨⟨by decide +kernel, by decide +kernel⟩, List.mem_of_getElem? (i := 678) (by decide +kernel), List.mem_of_getElem? (i := 969) (by decide +kernel), List.mem_of_getElem? (i := 970) (by decide +kernel)⟩
theorem lw_p39 : lw_okq (⟨"FanBladesModel", "isRest", "(IIII)Z"⟩, 21) := ⟨⟨by decide +kernel, by decide +kernel⟩, List.mem_of_getElem? (i := 678) (by decide +kernel), List.mem_of_getElem? (i := 980) (by decide +kernel), List.mem_of_getElem? (i := 981) (by decide +kernel)⟩
theorem lw_p40 : lw_okq (⟨"FanBladesModel", "gain", "(IIII)I"⟩, 21) := ⟨⟨by decide +kernel, by decide +kernel⟩, List.mem_of_getElem? (i := 678) (by decide +kernel), List.mem_of_getElem? (i := 984) (by decide +kernel), List.mem_of_getElem? (i := 985) (by decide +kernel)⟩
def lw_privs_3 : List (MethodName × Nat) := [(⟨"FanBladesModel", "figuresOf", "(I)I"⟩, 21), (⟨"FanBladesModel", "timesSeen", "(I)I"⟩, 21), (⟨"FanBladesModel", "layTrial", "()V"⟩, 21), (⟨"FanBladesModel", "tryThing", "(III)Z"⟩, 21), (⟨"FanBladesModel", "wide", "(I)I"⟩, 21), (⟨"FanBladesModel", "mayBe", "()Z"⟩, 21), (⟨"FanBladesModel", "placesSeen", "(II)I"⟩, 21), (⟨"FanBladesModel", "isRest", "(IIII)Z"⟩, 21), (⟨"FanBladesModel", "gain", "(IIII)I"⟩, 21)]
theorem lw_r3 : ∀ q ∈ lw_privs_3, lw_okq q := List.forall_mem_cons.mpr ⟨lw_p32, List.forall_mem_cons.mpr ⟨lw_p33, List.forall_mem_cons.mpr ⟨lw_p34, List.forall_mem_cons.mpr ⟨lw_p35, List.forall_mem_cons.mpr ⟨lw_p36, List.forall_mem_cons.mpr ⟨lw_p37, List.forall_mem_cons.mpr ⟨lw_p38, List.forall_mem_cons.mpr ⟨lw_p39, List.forall_mem_cons.mpr ⟨lw_p40, fun _ h => absurd h List.not_mem_nil⟩⟩⟩⟩⟩⟩⟩⟩⟩
def lw_privs : List (MethodName × Nat) := lw_privs_1 ++ (lw_privs_2 ++ (lw_privs_3))
def lw_tbl : List Cond := k2_sels lw_privs ++ tables_1
theorem lw_privs_ok : ∀ q ∈ lw_privs, lw_okq q := by
  show ∀ q ∈ lw_privs_1 ++ (lw_privs_2 ++ (lw_privs_3)), lw_okq q
  exact List.forall_mem_append.mpr ⟨lw_r1, List.forall_mem_append.mpr ⟨lw_r2, lw_r3⟩⟩
end
section
def RX0 : String := "FanBlades$Acts"
def TX0 : u_T := fun k => match k with
  | 0 => ("FanBlades$Acts", "rows", "[[I", true)
  | _ => ("FanBlades$Acts", "size", "I", false)
def tyX0 : Nat → FieldType := fun k => match k with
  | 0 => .array (.array .int)
  | _ => .int
theorem nmX0 : ∀ a, a < 2 → ∀ b, b < 2 → a ≠ b → (TX0 a).2.1 ≠ (TX0 b).2.1 := by decide +kernel
theorem tyX0_ok : ∀ k, k < 2 → parseFieldDescriptor (TX0 k).2.2.1 = some (tyX0 k) := by decide +kernel
abbrev cX0_init : ByteArray := prog_2_method_1_code
def yX0_init : MethodName := ⟨RX0, "<init>", "()V"⟩
abbrev cX0_size : ByteArray := prog_2_method_2_code
def yX0_size : MethodName := ⟨RX0, "size", "()I"⟩
abbrev cX0_clear : ByteArray := prog_2_method_3_code
def yX0_clear : MethodName := ⟨RX0, "clear", "()V"⟩
abbrev cX0_remember : ByteArray := prog_2_method_4_code
def yX0_remember : MethodName := ⟨RX0, "remember", "(LFanBlades$GapRow;)V"⟩
abbrev cX0_forgetFirst : ByteArray := prog_2_method_5_code
def yX0_forgetFirst : MethodName := ⟨RX0, "forgetFirst", "()V"⟩
abbrev cX0_takeBack : ByteArray := prog_2_method_6_code
def yX0_takeBack : MethodName := ⟨RX0, "takeBack", "(LFanBlades$GapRow;)Z"⟩
def RX1 : String := "FanBlades$Blades"
def TX1 : u_T := fun k => match k with
  | 0 => ("FanBlades$Blades", "kinds", "[I", true)
  | 1 => ("FanBlades$Blades", "letters", "[I", true)
  | _ => ("FanBlades$Blades", "size", "I", false)
def tyX1 : Nat → FieldType := fun k => match k with
  | 0 => .array .int
  | 1 => .array .int
  | _ => .int
theorem nmX1 : ∀ a, a < 3 → ∀ b, b < 3 → a ≠ b → (TX1 a).2.1 ≠ (TX1 b).2.1 := by decide +kernel
theorem tyX1_ok : ∀ k, k < 3 → parseFieldDescriptor (TX1 k).2.2.1 = some (tyX1 k) := by decide +kernel
abbrev cX1_init : ByteArray := prog_3_method_1_code
def yX1_init : MethodName := ⟨RX1, "<init>", "()V"⟩
abbrev cX1_take : ByteArray := prog_3_method_2_code
def yX1_take : MethodName := ⟨RX1, "take", "(LFanBlades$Letters;)V"⟩
abbrev cX1_size : ByteArray := prog_3_method_3_code
def yX1_size : MethodName := ⟨RX1, "size", "()I"⟩
abbrev cX1_has : ByteArray := prog_3_method_4_code
def yX1_has : MethodName := ⟨RX1, "has", "(I)Z"⟩
abbrev cX1_hasGap : ByteArray := prog_3_method_5_code
def yX1_hasGap : MethodName := ⟨RX1, "hasGap", "(I)Z"⟩
abbrev cX1_canPart : ByteArray := prog_3_method_6_code
def yX1_canPart : MethodName := ⟨RX1, "canPart", "(I)Z"⟩
abbrev cX1_kindOf : ByteArray := prog_3_method_7_code
def yX1_kindOf : MethodName := ⟨RX1, "kindOf", "(I)I"⟩
abbrev cX1_widthOf : ByteArray := prog_3_method_8_code
def yX1_widthOf : MethodName := ⟨RX1, "widthOf", "(I)I"⟩
abbrev cX1_isSolid : ByteArray := prog_3_method_9_code
def yX1_isSolid : MethodName := ⟨RX1, "isSolid", "(II)Z"⟩
abbrev cX1_markOf : ByteArray := prog_3_method_10_code
def yX1_markOf : MethodName := ⟨RX1, "markOf", "(III)I"⟩
abbrev cX1_letterOf : ByteArray := prog_3_method_11_code
def yX1_letterOf : MethodName := ⟨RX1, "letterOf", "(I)I"⟩
def RX2 : String := "FanBlades$GapRow"
def TX2 : u_T := fun k => match k with
  | 0 => ("FanBlades$GapRow", "blades", "LFanBlades$Blades;", true)
  | _ => ("FanBlades$GapRow", "row", "[I", true)
def tyX2 : Nat → FieldType := fun k => match k with
  | 0 => .object "FanBlades$Blades"
  | _ => .array .int
theorem nmX2 : ∀ a, a < 2 → ∀ b, b < 2 → a ≠ b → (TX2 a).2.1 ≠ (TX2 b).2.1 := by decide +kernel
theorem tyX2_ok : ∀ k, k < 2 → parseFieldDescriptor (TX2 k).2.2.1 = some (tyX2 k) := by decide +kernel
abbrev cX2_init : ByteArray := prog_4_method_1_code
def yX2_init : MethodName := ⟨RX2, "<init>", "(LFanBlades$Blades;)V"⟩
abbrev cX2_at : ByteArray := prog_4_method_2_code
def yX2_at : MethodName := ⟨RX2, "at", "(I)I"⟩
abbrev cX2_canWiden : ByteArray := prog_4_method_3_code
def yX2_canWiden : MethodName := ⟨RX2, "canWiden", "(I)Z"⟩
abbrev cX2_canNarrow : ByteArray := prog_4_method_4_code
def yX2_canNarrow : MethodName := ⟨RX2, "canNarrow", "(I)Z"⟩
abbrev cX2_widen : ByteArray := prog_4_method_5_code
def yX2_widen : MethodName := ⟨RX2, "widen", "(I)Z"⟩
abbrev cX2_narrow : ByteArray := prog_4_method_6_code
def yX2_narrow : MethodName := ⟨RX2, "narrow", "(I)Z"⟩
abbrev cX2_widenAll : ByteArray := prog_4_method_7_code
def yX2_widenAll : MethodName := ⟨RX2, "widenAll", "()I"⟩
abbrev cX2_close : ByteArray := prog_4_method_8_code
def yX2_close : MethodName := ⟨RX2, "close", "(I)V"⟩
abbrev cX2_clear : ByteArray := prog_4_method_9_code
def yX2_clear : MethodName := ⟨RX2, "clear", "()V"⟩
abbrev cX2_sum : ByteArray := prog_4_method_10_code
def yX2_sum : MethodName := ⟨RX2, "sum", "()I"⟩
abbrev cX2_sumAhead : ByteArray := prog_4_method_11_code
def yX2_sumAhead : MethodName := ⟨RX2, "sumAhead", "(I)I"⟩
abbrev cX2_figures : ByteArray := prog_4_method_12_code
def yX2_figures : MethodName := ⟨RX2, "figures", "()I"⟩
abbrev cX2_stepsFrom : ByteArray := prog_4_method_13_code
def yX2_stepsFrom : MethodName := ⟨RX2, "stepsFrom", "(LFanBlades$GapRow;)I"⟩
abbrev cX2_copyFrom : ByteArray := prog_4_method_14_code
def yX2_copyFrom : MethodName := ⟨RX2, "copyFrom", "(LFanBlades$GapRow;)V"⟩
abbrev cX2_copyTo : ByteArray := prog_4_method_15_code
def yX2_copyTo : MethodName := ⟨RX2, "copyTo", "([I)V"⟩
abbrev cX2_copyBack : ByteArray := prog_4_method_16_code
def yX2_copyBack : MethodName := ⟨RX2, "copyBack", "([I)V"⟩
def RX3 : String := "FanBlades$Letters"
def TX3 : u_T := fun k => match k with
  | 0 => ("FanBlades$Letters", "row", "[I", true)
  | _ => ("FanBlades$Letters", "length", "I", false)
def tyX3 : Nat → FieldType := fun k => match k with
  | 0 => .array .int
  | _ => .int
theorem nmX3 : ∀ a, a < 2 → ∀ b, b < 2 → a ≠ b → (TX3 a).2.1 ≠ (TX3 b).2.1 := by decide +kernel
theorem tyX3_ok : ∀ k, k < 2 → parseFieldDescriptor (TX3 k).2.2.1 = some (tyX3 k) := by decide +kernel
abbrev cX3_init : ByteArray := prog_5_method_1_code
def yX3_init : MethodName := ⟨RX3, "<init>", "()V"⟩
abbrev cX3_length : ByteArray := prog_5_method_2_code
def yX3_length : MethodName := ⟨RX3, "length", "()I"⟩
abbrev cX3_at : ByteArray := prog_5_method_3_code
def yX3_at : MethodName := ⟨RX3, "at", "(I)I"⟩
abbrev cX3_append : ByteArray := prog_5_method_4_code
def yX3_append : MethodName := ⟨RX3, "append", "(I)Z"⟩
abbrev cX3_clear : ByteArray := prog_5_method_5_code
def yX3_clear : MethodName := ⟨RX3, "clear", "()V"⟩
abbrev cX3_firstFault : ByteArray := prog_5_method_6_code
def yX3_firstFault : MethodName := ⟨RX3, "firstFault", "()I"⟩
abbrev cX3_canStand : ByteArray := prog_5_method_7_code
def yX3_canStand : MethodName := ⟨RX3, "canStand", "(II)Z"⟩
def RX4 : String := "FanBlades$Slots"
def TX4 : u_T := fun k => match k with
  | 0 => ("FanBlades$Slots", "rows", "[[I", true)
  | _ => ("FanBlades$Slots", "kept", "[Z", true)
def tyX4 : Nat → FieldType := fun k => match k with
  | 0 => .array (.array .int)
  | _ => .array .boolean
theorem nmX4 : ∀ a, a < 2 → ∀ b, b < 2 → a ≠ b → (TX4 a).2.1 ≠ (TX4 b).2.1 := by decide +kernel
theorem tyX4_ok : ∀ k, k < 2 → parseFieldDescriptor (TX4 k).2.2.1 = some (tyX4 k) := by decide +kernel
abbrev cX4_init : ByteArray := prog_6_method_1_code
def yX4_init : MethodName := ⟨RX4, "<init>", "()V"⟩
abbrev cX4_has : ByteArray := prog_6_method_2_code
def yX4_has : MethodName := ⟨RX4, "has", "(I)Z"⟩
abbrev cX4_clear : ByteArray := prog_6_method_3_code
def yX4_clear : MethodName := ⟨RX4, "clear", "()V"⟩
abbrev cX4_store : ByteArray := prog_6_method_4_code
def yX4_store : MethodName := ⟨RX4, "store", "(ILFanBlades$GapRow;)Z"⟩
abbrev cX4_restore : ByteArray := prog_6_method_5_code
def yX4_restore : MethodName := ⟨RX4, "restore", "(ILFanBlades$GapRow;)Z"⟩
def RX5 : String := "FanBlades$Spied"
def TX5 : u_T := fun k => match k with
  | 0 => ("FanBlades$Spied", "places", "[I", true)
  | 1 => ("FanBlades$Spied", "letters", "[I", true)
  | 2 => ("FanBlades$Spied", "seen", "[Z", true)
  | _ => ("FanBlades$Spied", "size", "I", false)
def tyX5 : Nat → FieldType := fun k => match k with
  | 0 => .array .int
  | 1 => .array .int
  | 2 => .array .boolean
  | _ => .int
theorem nmX5 : ∀ a, a < 4 → ∀ b, b < 4 → a ≠ b → (TX5 a).2.1 ≠ (TX5 b).2.1 := by decide +kernel
theorem tyX5_ok : ∀ k, k < 4 → parseFieldDescriptor (TX5 k).2.2.1 = some (tyX5 k) := by decide +kernel
abbrev cX5_init : ByteArray := prog_7_method_1_code
def yX5_init : MethodName := ⟨RX5, "<init>", "()V"⟩
abbrev cX5_size : ByteArray := prog_7_method_2_code
def yX5_size : MethodName := ⟨RX5, "size", "()I"⟩
abbrev cX5_clear : ByteArray := prog_7_method_3_code
def yX5_clear : MethodName := ⟨RX5, "clear", "()V"⟩
abbrev cX5_add : ByteArray := prog_7_method_4_code
def yX5_add : MethodName := ⟨RX5, "add", "(IIZ)Z"⟩
abbrev cX5_fits : ByteArray := prog_7_method_5_code
def yX5_fits : MethodName := ⟨RX5, "fits", "(LFanBlades$View;)Z"⟩
def RX6 : String := "FanBlades$View"
def TX6 : u_T := fun k => match k with
  | 0 => ("FanBlades$View", "blades", "LFanBlades$Blades;", true)
  | 1 => ("FanBlades$View", "marks", "[[I", true)
  | 2 => ("FanBlades$View", "begins", "[I", true)
  | 3 => ("FanBlades$View", "side", "I", false)
  | _ => ("FanBlades$View", "laid", "I", false)
def tyX6 : Nat → FieldType := fun k => match k with
  | 0 => .object "FanBlades$Blades"
  | 1 => .array (.array .int)
  | 2 => .array .int
  | 3 => .int
  | _ => .int
theorem nmX6 : ∀ a, a < 5 → ∀ b, b < 5 → a ≠ b → (TX6 a).2.1 ≠ (TX6 b).2.1 := by decide +kernel
theorem tyX6_ok : ∀ k, k < 5 → parseFieldDescriptor (TX6 k).2.2.1 = some (tyX6 k) := by decide +kernel
abbrev cX6_init : ByteArray := prog_8_method_1_code
def yX6_init : MethodName := ⟨RX6, "<init>", "(LFanBlades$Blades;)V"⟩
abbrev cX6_side : ByteArray := prog_8_method_2_code
def yX6_side : MethodName := ⟨RX6, "side", "()I"⟩
abbrev cX6_layAll : ByteArray := prog_8_method_3_code
def yX6_layAll : MethodName := ⟨RX6, "layAll", "(LFanBlades$GapRow;I)V"⟩
abbrev cX6_layStaying : ByteArray := prog_8_method_4_code
def yX6_layStaying : MethodName := ⟨RX6, "layStaying", "(LFanBlades$GapRow;II)V"⟩
abbrev cX6_layFrom : ByteArray := prog_8_method_5_code
def yX6_layFrom : MethodName := ⟨RX6, "layFrom", "(ILFanBlades$GapRow;I)V"⟩
abbrev cX6_lay : ByteArray := prog_8_method_6_code
def yX6_lay : MethodName := ⟨RX6, "lay", "(I[I)V"⟩
abbrev cX6_liesUpper : ByteArray := prog_8_method_7_code
def yX6_liesUpper : MethodName := ⟨RX6, "liesUpper", "(I)Z"⟩
abbrev cX6_reach : ByteArray := prog_8_method_8_code
def yX6_reach : MethodName := ⟨RX6, "reach", "()I"⟩
abbrev cX6_markAt : ByteArray := prog_8_method_9_code
def yX6_markAt : MethodName := ⟨RX6, "markAt", "(I)I"⟩
abbrev cX6_letterAt : ByteArray := prog_8_method_10_code
def yX6_letterAt : MethodName := ⟨RX6, "letterAt", "(I)I"⟩
abbrev cX6_bladeAt : ByteArray := prog_8_method_11_code
def yX6_bladeAt : MethodName := ⟨RX6, "bladeAt", "(I)I"⟩
abbrev cX6_cellsSeen : ByteArray := prog_8_method_12_code
def yX6_cellsSeen : MethodName := ⟨RX6, "cellsSeen", "(I)I"⟩
abbrev cX6_placesSeen : ByteArray := prog_8_method_13_code
def yX6_placesSeen : MethodName := ⟨RX6, "placesSeen", "()I"⟩
abbrev cX6_placesWith : ByteArray := prog_8_method_14_code
def yX6_placesWith : MethodName := ⟨RX6, "placesWith", "(I)I"⟩
abbrev cX6_wide : ByteArray := prog_8_method_15_code
def yX6_wide : MethodName := ⟨RX6, "wide", "()I"⟩
def RX7 : String := "FanBlades$Ways"
def TX7 : u_T := fun k => match k with
  | 0 => ("FanBlades$Ways", "blades", "LFanBlades$Blades;", true)
  | 1 => ("FanBlades$Ways", "way", "LFanBlades$GapRow;", true)
  | _ => ("FanBlades$Ways", "view", "LFanBlades$View;", true)
def tyX7 : Nat → FieldType := fun k => match k with
  | 0 => .object "FanBlades$Blades"
  | 1 => .object "FanBlades$GapRow"
  | _ => .object "FanBlades$View"
theorem nmX7 : ∀ a, a < 3 → ∀ b, b < 3 → a ≠ b → (TX7 a).2.1 ≠ (TX7 b).2.1 := by decide +kernel
theorem tyX7_ok : ∀ k, k < 3 → parseFieldDescriptor (TX7 k).2.2.1 = some (tyX7 k) := by decide +kernel
abbrev cX7_init : ByteArray := prog_9_method_1_code
def yX7_init : MethodName := ⟨RX7, "<init>", "(LFanBlades$Blades;LFanBlades$GapRow;LFanBlades$View;)V"⟩
abbrev cX7_begin : ByteArray := prog_9_method_2_code
def yX7_begin : MethodName := ⟨RX7, "begin", "(I)V"⟩
abbrev cX7_step : ByteArray := prog_9_method_3_code
def yX7_step : MethodName := ⟨RX7, "step", "()Z"⟩
def RX8 : String := "FanBlades$Word"
def TX8 : u_T := fun k => match k with
  | 0 => ("FanBlades$Word", "letters", "[I", true)
  | _ => ("FanBlades$Word", "length", "I", false)
def tyX8 : Nat → FieldType := fun k => match k with
  | 0 => .array .int
  | _ => .int
theorem nmX8 : ∀ a, a < 2 → ∀ b, b < 2 → a ≠ b → (TX8 a).2.1 ≠ (TX8 b).2.1 := by decide +kernel
theorem tyX8_ok : ∀ k, k < 2 → parseFieldDescriptor (TX8 k).2.2.1 = some (tyX8 k) := by decide +kernel
abbrev cX8_init : ByteArray := prog_10_method_1_code
def yX8_init : MethodName := ⟨RX8, "<init>", "()V"⟩
abbrev cX8_length : ByteArray := prog_10_method_2_code
def yX8_length : MethodName := ⟨RX8, "length", "()I"⟩
abbrev cX8_take : ByteArray := prog_10_method_3_code
def yX8_take : MethodName := ⟨RX8, "take", "(IJ)V"⟩
abbrev cX8_isRead : ByteArray := prog_10_method_4_code
def yX8_isRead : MethodName := ⟨RX8, "isRead", "(LFanBlades$View;)Z"⟩
abbrev cX8_firstRead : ByteArray := prog_10_method_5_code
def yX8_firstRead : MethodName := ⟨RX8, "firstRead", "(LFanBlades$View;)I"⟩
abbrev cX8_isReadAt : ByteArray := prog_10_method_6_code
def yX8_isReadAt : MethodName := ⟨RX8, "isReadAt", "(LFanBlades$View;II)Z"⟩
def RX9 : String := "FanBlades"
def TX9 : u_T := fun k => match k with
  | 0 => ("FanBlades", "text", "LFanBlades$Letters;", true)
  | 1 => ("FanBlades", "blades", "LFanBlades$Blades;", true)
  | 2 => ("FanBlades", "now", "LFanBlades$GapRow;", true)
  | 3 => ("FanBlades", "trial", "LFanBlades$GapRow;", true)
  | 4 => ("FanBlades", "view", "LFanBlades$View;", true)
  | 5 => ("FanBlades", "ways", "LFanBlades$Ways;", true)
  | 6 => ("FanBlades", "told", "LFanBlades$Word;", true)
  | 7 => ("FanBlades", "acts", "LFanBlades$Acts;", true)
  | 8 => ("FanBlades", "slots", "LFanBlades$Slots;", true)
  | 9 => ("FanBlades", "spied", "LFanBlades$Spied;", true)
  | 10 => ("FanBlades", "oneHas", "[I", true)
  | 11 => ("FanBlades", "otherHas", "[I", true)
  | 12 => ("FanBlades", "doings", "[I", true)
  | _ => ("FanBlades", "seedNow", "J", false)
def tyX9 : Nat → FieldType := fun k => match k with
  | 0 => .object "FanBlades$Letters"
  | 1 => .object "FanBlades$Blades"
  | 2 => .object "FanBlades$GapRow"
  | 3 => .object "FanBlades$GapRow"
  | 4 => .object "FanBlades$View"
  | 5 => .object "FanBlades$Ways"
  | 6 => .object "FanBlades$Word"
  | 7 => .object "FanBlades$Acts"
  | 8 => .object "FanBlades$Slots"
  | 9 => .object "FanBlades$Spied"
  | 10 => .array .int
  | 11 => .array .int
  | 12 => .array .int
  | _ => .long
theorem nmX9 : ∀ a, a < 14 → ∀ b, b < 14 → a ≠ b → (TX9 a).2.1 ≠ (TX9 b).2.1 := by decide +kernel
theorem tyX9_ok : ∀ k, k < 14 → parseFieldDescriptor (TX9 k).2.2.1 = some (tyX9 k) := by decide +kernel
abbrev cX9_init : ByteArray := prog_1_method_1_code
def yX9_init : MethodName := ⟨RX9, "<init>", "()V"⟩
abbrev cX9_write : ByteArray := prog_1_method_2_code
def yX9_write : MethodName := ⟨RX9, "write", "(I)I"⟩
abbrev cX9_wipe : ByteArray := prog_1_method_3_code
def yX9_wipe : MethodName := ⟨RX9, "wipe", "()I"⟩
abbrev cX9_fault : ByteArray := prog_1_method_4_code
def yX9_fault : MethodName := ⟨RX9, "fault", "()I"⟩
abbrev cX9_fan : ByteArray := prog_1_method_5_code
def yX9_fan : MethodName := ⟨RX9, "fan", "()I"⟩
abbrev cX9_word : ByteArray := prog_1_method_6_code
def yX9_word : MethodName := ⟨RX9, "word", "(IJ)I"⟩
abbrev cX9_blade : ByteArray := prog_1_method_7_code
def yX9_blade : MethodName := ⟨RX9, "blade", "(II)I"⟩
abbrev cX9_look : ByteArray := prog_1_method_8_code
def yX9_look : MethodName := ⟨RX9, "look", "(III)I"⟩
abbrev cX9_spread : ByteArray := prog_1_method_9_code
def yX9_spread : MethodName := ⟨RX9, "spread", "(I)I"⟩
abbrev cX9_fold : ByteArray := prog_1_method_10_code
def yX9_fold : MethodName := ⟨RX9, "fold", "(I)I"⟩
abbrev cX9_fling : ByteArray := prog_1_method_11_code
def yX9_fling : MethodName := ⟨RX9, "fling", "()I"⟩
abbrev cX9_snap : ByteArray := prog_1_method_12_code
def yX9_snap : MethodName := ⟨RX9, "snap", "()I"⟩
abbrev cX9_undo : ByteArray := prog_1_method_13_code
def yX9_undo : MethodName := ⟨RX9, "undo", "()I"⟩
abbrev cX9_reads : ByteArray := prog_1_method_14_code
def yX9_reads : MethodName := ⟨RX9, "reads", "(I)I"⟩
abbrev cX9_open : ByteArray := prog_1_method_15_code
def yX9_open : MethodName := ⟨RX9, "open", "(II)I"⟩
abbrev cX9_most : ByteArray := prog_1_method_16_code
def yX9_most : MethodName := ⟨RX9, "most", "(II)I"⟩
abbrev cX9_judge : ByteArray := prog_1_method_17_code
def yX9_judge : MethodName := ⟨RX9, "judge", "(IJ)I"⟩
abbrev cX9_spy : ByteArray := prog_1_method_18_code
def yX9_spy : MethodName := ⟨RX9, "spy", "(III)I"⟩
abbrev cX9_unspy : ByteArray := prog_1_method_19_code
def yX9_unspy : MethodName := ⟨RX9, "unspy", "()I"⟩
abbrev cX9_gaps : ByteArray := prog_1_method_20_code
def yX9_gaps : MethodName := ⟨RX9, "gaps", "(I)I"⟩
abbrev cX9_share : ByteArray := prog_1_method_21_code
def yX9_share : MethodName := ⟨RX9, "share", "(IZ)I"⟩
abbrev cX9_rests : ByteArray := prog_1_method_22_code
def yX9_rests : MethodName := ⟨RX9, "rests", "(III)I"⟩
abbrev cX9_drops : ByteArray := prog_1_method_23_code
def yX9_drops : MethodName := ⟨RX9, "drops", "(IIZ)I"⟩
abbrev cX9_seed : ByteArray := prog_1_method_24_code
def yX9_seed : MethodName := ⟨RX9, "seed", "(J)J"⟩
abbrev cX9_years : ByteArray := prog_1_method_25_code
def yX9_years : MethodName := ⟨RX9, "years", "(I)I"⟩
abbrev cX9_keep : ByteArray := prog_1_method_26_code
def yX9_keep : MethodName := ⟨RX9, "keep", "(I)I"⟩
abbrev cX9_again : ByteArray := prog_1_method_27_code
def yX9_again : MethodName := ⟨RX9, "again", "(I)I"⟩
abbrev cX9_count : ByteArray := prog_1_method_28_code
def yX9_count : MethodName := ⟨RX9, "count", "(I)I"⟩
abbrev cX9_comesTrue : ByteArray := prog_1_method_29_code
def yX9_comesTrue : MethodName := ⟨RX9, "comesTrue", "(III)Z"⟩
abbrev cX9_shareOfPlace : ByteArray := prog_1_method_30_code
def yX9_shareOfPlace : MethodName := ⟨RX9, "shareOfPlace", "(I)I"⟩
abbrev cX9_weighPair : ByteArray := prog_1_method_31_code
def yX9_weighPair : MethodName := ⟨RX9, "weighPair", "(III)V"⟩
abbrev cX9_weightOf : ByteArray := prog_1_method_32_code
def yX9_weightOf : MethodName := ⟨RX9, "weightOf", "(II)I"⟩
abbrev cX9_passYear : ByteArray := prog_1_method_33_code
def yX9_passYear : MethodName := ⟨RX9, "passYear", "(I)V"⟩
abbrev cX9_isBit : ByteArray := prog_1_method_34_code
def yX9_isBit : MethodName := ⟨RX9, "isBit", "(I)Z"⟩
abbrev cX9_isPlace : ByteArray := prog_1_method_35_code
def yX9_isPlace : MethodName := ⟨RX9, "isPlace", "(I)Z"⟩
abbrev cX9_isLetter : ByteArray := prog_1_method_36_code
def yX9_isLetter : MethodName := ⟨RX9, "isLetter", "(I)Z"⟩
abbrev cX9_tenTo : ByteArray := prog_1_method_37_code
def yX9_tenTo : MethodName := ⟨RX9, "tenTo", "(I)J"⟩
abbrev cX9_hasFigures : ByteArray := prog_1_method_38_code
def yX9_hasFigures : MethodName := ⟨RX9, "hasFigures", "(JI)Z"⟩
abbrev cX9_areLetters : ByteArray := prog_1_method_39_code
def yX9_areLetters : MethodName := ⟨RX9, "areLetters", "(IJ)Z"⟩
abbrev cX9_fraction : ByteArray := prog_1_method_40_code
def yX9_fraction : MethodName := ⟨RX9, "fraction", "(IIZ)I"⟩
abbrev cX9_greatestShared : ByteArray := prog_1_method_41_code
def yX9_greatestShared : MethodName := ⟨RX9, "greatestShared", "(II)I"⟩
def RX10 : String := "FanBladesModel"
def TX10 : u_T := fun k => match k with
  | 0 => ("FanBladesModel", "blades", "I", false)
  | 1 => ("FanBladesModel", "kind", "[I", true)
  | 2 => ("FanBladesModel", "letter", "[I", true)
  | 3 => ("FanBladesModel", "now", "[I", true)
  | 4 => ("FanBladesModel", "readKind", "[I", true)
  | 5 => ("FanBladesModel", "readLetter", "[I", true)
  | 6 => ("FanBladesModel", "readBlades", "I", false)
  | 7 => ("FanBladesModel", "text", "[I", true)
  | 8 => ("FanBladesModel", "length", "I", false)
  | 9 => ("FanBladesModel", "wordMany", "I", false)
  | 10 => ("FanBladesModel", "word", "[I", true)
  | 11 => ("FanBladesModel", "acts", "I", false)
  | 12 => ("FanBladesModel", "next", "I", false)
  | 13 => ("FanBladesModel", "row", "[I", true)
  | 14 => ("FanBladesModel", "spied", "I", false)
  | 15 => ("FanBladesModel", "spiedAt", "[I", true)
  | 16 => ("FanBladesModel", "spiedLetter", "[I", true)
  | 17 => ("FanBladesModel", "spiedSeen", "[I", true)
  | 18 => ("FanBladesModel", "seed", "J", false)
  | 19 => ("FanBladesModel", "isKept", "[Z", true)
  | _ => ("FanBladesModel", "kept", "[I", true)
def tyX10 : Nat → FieldType := fun k => match k with
  | 0 => .int
  | 1 => .array .int
  | 2 => .array .int
  | 3 => .array .int
  | 4 => .array .int
  | 5 => .array .int
  | 6 => .int
  | 7 => .array .int
  | 8 => .int
  | 9 => .int
  | 10 => .array .int
  | 11 => .int
  | 12 => .int
  | 13 => .array .int
  | 14 => .int
  | 15 => .array .int
  | 16 => .array .int
  | 17 => .array .int
  | 18 => .long
  | 19 => .array .boolean
  | _ => .array .int
theorem nmX10 : ∀ a, a < 21 → ∀ b, b < 21 → a ≠ b → (TX10 a).2.1 ≠ (TX10 b).2.1 := by decide +kernel
theorem tyX10_ok : ∀ k, k < 21 → parseFieldDescriptor (TX10 k).2.2.1 = some (tyX10 k) := by decide +kernel
abbrev cX10_init : ByteArray := prog_12_method_1_code
def yX10_init : MethodName := ⟨RX10, "<init>", "()V"⟩
abbrev cX10_in : ByteArray := prog_12_method_3_code
def yX10_in : MethodName := ⟨RX10, "in", "(JJJ)Z"⟩
abbrev cX10_has : ByteArray := prog_12_method_4_code
def yX10_has : MethodName := ⟨RX10, "has", "(II)Z"⟩
abbrev cX10_ones : ByteArray := prog_12_method_5_code
def yX10_ones : MethodName := ⟨RX10, "ones", "(I)I"⟩
abbrev cX10_write : ByteArray := prog_12_method_6_code
def yX10_write : MethodName := ⟨RX10, "write", "(I)I"⟩
abbrev cX10_wipe : ByteArray := prog_12_method_7_code
def yX10_wipe : MethodName := ⟨RX10, "wipe", "()I"⟩
abbrev cX10_readText : ByteArray := prog_12_method_8_code
def yX10_readText : MethodName := ⟨RX10, "readText", "()I"⟩
abbrev cX10_fault : ByteArray := prog_12_method_9_code
def yX10_fault : MethodName := ⟨RX10, "fault", "()I"⟩
abbrev cX10_fan : ByteArray := prog_12_method_10_code
def yX10_fan : MethodName := ⟨RX10, "fan", "()I"⟩
abbrev cX10_isBlade : ByteArray := prog_12_method_11_code
def yX10_isBlade : MethodName := ⟨RX10, "isBlade", "(I)Z"⟩
abbrev cX10_gapMany : ByteArray := prog_12_method_12_code
def yX10_gapMany : MethodName := ⟨RX10, "gapMany", "()I"⟩
abbrev cX10_isGap : ByteArray := prog_12_method_13_code
def yX10_isGap : MethodName := ⟨RX10, "isGap", "(I)Z"⟩
abbrev cX10_isFree : ByteArray := prog_12_method_14_code
def yX10_isFree : MethodName := ⟨RX10, "isFree", "(I)Z"⟩
abbrev cX10_hundredTo : ByteArray := prog_12_method_15_code
def yX10_hundredTo : MethodName := ⟨RX10, "hundredTo", "(I)J"⟩
abbrev cX10_word : ByteArray := prog_12_method_16_code
def yX10_word : MethodName := ⟨RX10, "word", "(IJ)I"⟩
abbrev cX10_beginOf : ByteArray := prog_12_method_17_code
def yX10_beginOf : MethodName := ⟨RX10, "beginOf", "(II)I"⟩
abbrev cX10_wideOf : ByteArray := prog_12_method_18_code
def yX10_wideOf : MethodName := ⟨RX10, "wideOf", "(I)I"⟩
abbrev cX10_cellAt : ByteArray := prog_12_method_19_code
def yX10_cellAt : MethodName := ⟨RX10, "cellAt", "(III)I"⟩
abbrev cX10_bladeAt : ByteArray := prog_12_method_20_code
def yX10_bladeAt : MethodName := ⟨RX10, "bladeAt", "(IIII)I"⟩
abbrev cX10_letterAt : ByteArray := prog_12_method_21_code
def yX10_letterAt : MethodName := ⟨RX10, "letterAt", "(IIII)I"⟩
abbrev cX10_cellsSeen : ByteArray := prog_12_method_22_code
def yX10_cellsSeen : MethodName := ⟨RX10, "cellsSeen", "(III)I"⟩
abbrev cX10_wide : ByteArray := prog_12_method_23_code
def yX10_wide : MethodName := ⟨RX10, "wide", "(I)I"⟩
abbrev cX10_placesSeen : ByteArray := prog_12_method_24_code
def yX10_placesSeen : MethodName := ⟨RX10, "placesSeen", "(II)I"⟩
abbrev cX10_isReadAt : ByteArray := prog_12_method_25_code
def yX10_isReadAt : MethodName := ⟨RX10, "isReadAt", "(IIII)Z"⟩
abbrev cX10_readsOn : ByteArray := prog_12_method_26_code
def yX10_readsOn : MethodName := ⟨RX10, "readsOn", "(III)I"⟩
abbrev cX10_blade : ByteArray := prog_12_method_27_code
def yX10_blade : MethodName := ⟨RX10, "blade", "(II)I"⟩
abbrev cX10_look : ByteArray := prog_12_method_28_code
def yX10_look : MethodName := ⟨RX10, "look", "(III)I"⟩
abbrev cX10_keepAct : ByteArray := prog_12_method_29_code
def yX10_keepAct : MethodName := ⟨RX10, "keepAct", "()V"⟩
abbrev cX10_canSpread : ByteArray := prog_12_method_30_code
def yX10_canSpread : MethodName := ⟨RX10, "canSpread", "(II)Z"⟩
abbrev cX10_canFold : ByteArray := prog_12_method_31_code
def yX10_canFold : MethodName := ⟨RX10, "canFold", "(II)Z"⟩
abbrev cX10_spread : ByteArray := prog_12_method_32_code
def yX10_spread : MethodName := ⟨RX10, "spread", "(I)I"⟩
abbrev cX10_fold : ByteArray := prog_12_method_33_code
def yX10_fold : MethodName := ⟨RX10, "fold", "(I)I"⟩
abbrev cX10_flingOn : ByteArray := prog_12_method_34_code
def yX10_flingOn : MethodName := ⟨RX10, "flingOn", "(I)I"⟩
abbrev cX10_gapsOf : ByteArray := prog_12_method_35_code
def yX10_gapsOf : MethodName := ⟨RX10, "gapsOf", "(I)I"⟩
abbrev cX10_snapOn : ByteArray := prog_12_method_36_code
def yX10_snapOn : MethodName := ⟨RX10, "snapOn", "(I)V"⟩
abbrev cX10_fling : ByteArray := prog_12_method_37_code
def yX10_fling : MethodName := ⟨RX10, "fling", "()I"⟩
abbrev cX10_snap : ByteArray := prog_12_method_38_code
def yX10_snap : MethodName := ⟨RX10, "snap", "()I"⟩
abbrev cX10_undo : ByteArray := prog_12_method_39_code
def yX10_undo : MethodName := ⟨RX10, "undo", "()I"⟩
abbrev cX10_layTrial : ByteArray := prog_12_method_40_code
def yX10_layTrial : MethodName := ⟨RX10, "layTrial", "()V"⟩
abbrev cX10_reads : ByteArray := prog_12_method_41_code
def yX10_reads : MethodName := ⟨RX10, "reads", "(I)I"⟩
abbrev cX10_waysMany : ByteArray := prog_12_method_42_code
def yX10_waysMany : MethodName := ⟨RX10, "waysMany", "()I"⟩
abbrev cX10_layWay : ByteArray := prog_12_method_43_code
def yX10_layWay : MethodName := ⟨RX10, "layWay", "(I)Z"⟩
abbrev cX10_figuresOf : ByteArray := prog_12_method_44_code
def yX10_figuresOf : MethodName := ⟨RX10, "figuresOf", "(I)I"⟩
abbrev cX10_farOf : ByteArray := prog_12_method_45_code
def yX10_farOf : MethodName := ⟨RX10, "farOf", "()I"⟩
abbrev cX10_open : ByteArray := prog_12_method_46_code
def yX10_open : MethodName := ⟨RX10, "open", "(II)I"⟩
abbrev cX10_timesSeen : ByteArray := prog_12_method_47_code
def yX10_timesSeen : MethodName := ⟨RX10, "timesSeen", "(I)I"⟩
abbrev cX10_most : ByteArray := prog_12_method_48_code
def yX10_most : MethodName := ⟨RX10, "most", "(II)I"⟩
abbrev cX10_tryThing : ByteArray := prog_12_method_49_code
def yX10_tryThing : MethodName := ⟨RX10, "tryThing", "(III)Z"⟩
abbrev cX10_thousandTo : ByteArray := prog_12_method_50_code
def yX10_thousandTo : MethodName := ⟨RX10, "thousandTo", "(I)J"⟩
abbrev cX10_judge : ByteArray := prog_12_method_51_code
def yX10_judge : MethodName := ⟨RX10, "judge", "(IJ)I"⟩
abbrev cX10_spy : ByteArray := prog_12_method_52_code
def yX10_spy : MethodName := ⟨RX10, "spy", "(III)I"⟩
abbrev cX10_unspy : ByteArray := prog_12_method_53_code
def yX10_unspy : MethodName := ⟨RX10, "unspy", "()I"⟩
abbrev cX10_mayBe : ByteArray := prog_12_method_54_code
def yX10_mayBe : MethodName := ⟨RX10, "mayBe", "()Z"⟩
abbrev cX10_gaps : ByteArray := prog_12_method_55_code
def yX10_gaps : MethodName := ⟨RX10, "gaps", "(I)I"⟩
abbrev cX10_factorial : ByteArray := prog_12_method_56_code
def yX10_factorial : MethodName := ⟨RX10, "factorial", "(I)I"⟩
abbrev cX10_common : ByteArray := prog_12_method_57_code
def yX10_common : MethodName := ⟨RX10, "common", "(II)I"⟩
abbrev cX10_share : ByteArray := prog_12_method_58_code
def yX10_share : MethodName := ⟨RX10, "share", "(IZ)I"⟩
abbrev cX10_gain : ByteArray := prog_12_method_59_code
def yX10_gain : MethodName := ⟨RX10, "gain", "(IIII)I"⟩
abbrev cX10_isRest : ByteArray := prog_12_method_60_code
def yX10_isRest : MethodName := ⟨RX10, "isRest", "(IIII)Z"⟩
abbrev cX10_rests : ByteArray := prog_12_method_61_code
def yX10_rests : MethodName := ⟨RX10, "rests", "(III)I"⟩
abbrev cX10_drops : ByteArray := prog_12_method_62_code
def yX10_drops : MethodName := ⟨RX10, "drops", "(IIZ)I"⟩
abbrev cX10_seed : ByteArray := prog_12_method_63_code
def yX10_seed : MethodName := ⟨RX10, "seed", "(J)J"⟩
abbrev cX10_years : ByteArray := prog_12_method_64_code
def yX10_years : MethodName := ⟨RX10, "years", "(I)I"⟩
abbrev cX10_keep : ByteArray := prog_12_method_65_code
def yX10_keep : MethodName := ⟨RX10, "keep", "(I)I"⟩
abbrev cX10_again : ByteArray := prog_12_method_66_code
def yX10_again : MethodName := ⟨RX10, "again", "(I)I"⟩
abbrev cX10_count : ByteArray := prog_12_method_67_code
def yX10_count : MethodName := ⟨RX10, "count", "(I)I"⟩
def RJ9 : String := "java/lang/Math"
def TJ9 : u_T := fun k => match k with
  | _ => ("", "", "", false)
def tyJ9 : Nat → FieldType := fun k => match k with
  | _ => .int
theorem nmJ9 : ∀ a, a < 0 → ∀ b, b < 0 → a ≠ b → (TJ9 a).2.1 ≠ (TJ9 b).2.1 := by decide +kernel
theorem tyJ9_ok : ∀ k, k < 0 → parseFieldDescriptor (TJ9 k).2.2.1 = some (tyJ9 k) := by decide +kernel
abbrev cJ9_abs_0f7a4 : ByteArray := prog_13_method_59_code
def yJ9_abs_0f7a4 : MethodName := ⟨RJ9, "abs", "(I)I"⟩
abbrev cJ9_max_7cf53 : ByteArray := prog_13_method_65_code
def yJ9_max_7cf53 : MethodName := ⟨RJ9, "max", "(II)I"⟩
abbrev cJ9_min_7cf53 : ByteArray := prog_13_method_69_code
def yJ9_min_7cf53 : MethodName := ⟨RJ9, "min", "(II)I"⟩
def RJ10 : String := "java/lang/System"
def TJ10 : u_T := fun k => match k with
  | _ => ("", "", "", false)
def tyJ10 : Nat → FieldType := fun k => match k with
  | _ => .int
theorem nmJ10 : ∀ a, a < 0 → ∀ b, b < 0 → a ≠ b → (TJ10 a).2.1 ≠ (TJ10 b).2.1 := by decide +kernel
theorem tyJ10_ok : ∀ k, k < 0 → parseFieldDescriptor (TJ10 k).2.2.1 = some (tyJ10 k) := by decide +kernel
def RJ7 : String := "java/util/Arrays"
def TJ7 : u_T := fun k => match k with
  | _ => ("", "", "", false)
def tyJ7 : Nat → FieldType := fun k => match k with
  | _ => .int
theorem nmJ7 : ∀ a, a < 0 → ∀ b, b < 0 → a ≠ b → (TJ7 a).2.1 ≠ (TJ7 b).2.1 := by decide +kernel
theorem tyJ7_ok : ∀ k, k < 0 → parseFieldDescriptor (TJ7 k).2.2.1 = some (tyJ7 k) := by decide +kernel
abbrev cJ7_fill_53178 : ByteArray := prog_15_method_103_code
def yJ7_fill_53178 : MethodName := ⟨RJ7, "fill", "([II)V"⟩
def RL : String := "FanBladesLaw"
abbrev cL_law : ByteArray := code
def yL_law : MethodName := ⟨RL, "law", "([I)Z"⟩
abbrev vwCl : List vw_C := [(RX0, TX0, 2), (RX1, TX1, 3), (RX2, TX2, 2), (RX3, TX3, 2), (RX4, TX4, 2), (RX5, TX5, 4), (RX6, TX6, 5), (RX7, TX7, 3), (RX8, TX8, 2), (RX9, TX9, 14), (RX10, TX10, 21)]
/-- every word of the tables that a call may hand on -/
def TT : List Cond := lw_tbl.filter goodWord
theorem tb_in {w : Cond} (h : w ∈ lw_tbl) (g : goodWord w = true) : w ∈ TT := List.mem_filter.mpr ⟨h, g⟩
theorem tb0 {w : Cond} (i : Nat) (h : (k2_sels lw_privs)[i]? = some w) (g : goodWord w = true) : w ∈ TT := tb_in (List.mem_append_left _ (List.mem_of_getElem? h)) g
theorem tb1 {w : Cond} (i : Nat) (h : tables_1_1[i]? = some w) (g : goodWord w = true) : w ∈ TT := tb_in (List.mem_append_right _ (List.mem_append_left _ (List.mem_of_getElem? h))) g
theorem tb2 {w : Cond} (i : Nat) (h : tables_1_2[i]? = some w) (g : goodWord w = true) : w ∈ TT := tb_in (List.mem_append_right _ (List.mem_append_right _ (List.mem_append_left _ (List.mem_of_getElem? h)))) g
theorem tb3 {w : Cond} (i : Nat) (h : tables_1_3[i]? = some w) (g : goodWord w = true) : w ∈ TT := tb_in (List.mem_append_right _ (List.mem_append_right _ (List.mem_append_right _ (List.mem_append_left _ (List.mem_of_getElem? h))))) g
theorem tb4 {w : Cond} (i : Nat) (h : tables_1_4[i]? = some w) (g : goodWord w = true) : w ∈ TT := tb_in (List.mem_append_right _ (List.mem_append_right _ (List.mem_append_right _ (List.mem_append_right _ (List.mem_append_left _ (List.mem_of_getElem? h)))))) g
theorem tb5 {w : Cond} (i : Nat) (h : tables_1_5[i]? = some w) (g : goodWord w = true) : w ∈ TT := tb_in (List.mem_append_right _ (List.mem_append_right _ (List.mem_append_right _ (List.mem_append_right _ (List.mem_append_right _ (List.mem_of_getElem? h)))))) g
theorem TT_good : GoodIn TT TT := fun w h => ⟨h, good_of_word (List.mem_filter.mp h).2⟩
theorem TT_tbl {w : Cond} (h : w ∈ TT) : w ∈ lw_tbl := (List.mem_filter.mp h).1
end
section
theorem dX0_init_0 : decode cX0_init 0 = .ok (.aload_n 0, 1) := by decide +kernel
theorem dX0_init_1 : decode cX0_init 1 = .ok (.invokespecial 3, 3) := by decide +kernel
theorem dX0_init_4 : decode cX0_init 4 = .ok (.aload_n 0, 1) := by decide +kernel
theorem dX0_init_5 : decode cX0_init 5 = .ok (.bipush 14, 2) := by decide +kernel
theorem dX0_init_7 : decode cX0_init 7 = .ok (.iconst 5, 1) := by decide +kernel
theorem dX0_init_8 : decode cX0_init 8 = .ok (.multianewarray 9 2, 4) := by decide +kernel
theorem dX0_init_12 : decode cX0_init 12 = .ok (.putfield 11, 3) := by decide +kernel
theorem dX0_init_15 : decode cX0_init 15 = .ok (.return_, 1) := by decide +kernel
theorem dX0_size_0 : decode cX0_size 0 = .ok (.aload_n 0, 1) := by decide +kernel
theorem dX0_size_1 : decode cX0_size 1 = .ok (.getfield 16, 3) := by decide +kernel
theorem dX0_size_4 : decode cX0_size 4 = .ok (.ireturn, 1) := by decide +kernel
theorem dX0_clear_0 : decode cX0_clear 0 = .ok (.aload_n 0, 1) := by decide +kernel
theorem dX0_clear_1 : decode cX0_clear 1 = .ok (.iconst 0, 1) := by decide +kernel
theorem dX0_clear_2 : decode cX0_clear 2 = .ok (.putfield 16, 3) := by decide +kernel
theorem dX0_clear_5 : decode cX0_clear 5 = .ok (.return_, 1) := by decide +kernel
theorem dX0_remember_0 : decode cX0_remember 0 = .ok (.aload_n 0, 1) := by decide +kernel
theorem dX0_remember_1 : decode cX0_remember 1 = .ok (.getfield 16, 3) := by decide +kernel
theorem dX0_remember_4 : decode cX0_remember 4 = .ok (.bipush 14, 2) := by decide +kernel
theorem dX0_remember_6 : decode cX0_remember 6 = .ok (.if_icmp .lt 7, 3) := by decide +kernel
theorem dX0_remember_9 : decode cX0_remember 9 = .ok (.aload_n 0, 1) := by decide +kernel
theorem dX0_remember_10 : decode cX0_remember 10 = .ok (.invokevirtual 20, 3) := by decide +kernel
theorem dX0_remember_13 : decode cX0_remember 13 = .ok (.aload_n 1, 1) := by decide +kernel
theorem dX0_remember_14 : decode cX0_remember 14 = .ok (.aload_n 0, 1) := by decide +kernel
theorem dX0_remember_15 : decode cX0_remember 15 = .ok (.getfield 11, 3) := by decide +kernel
theorem dX0_remember_18 : decode cX0_remember 18 = .ok (.aload_n 0, 1) := by decide +kernel
theorem dX0_remember_19 : decode cX0_remember 19 = .ok (.getfield 16, 3) := by decide +kernel
theorem dX0_remember_22 : decode cX0_remember 22 = .ok (.aaload, 1) := by decide +kernel
theorem dX0_remember_23 : decode cX0_remember 23 = .ok (.invokevirtual 23, 3) := by decide +kernel
theorem dX0_remember_26 : decode cX0_remember 26 = .ok (.aload_n 0, 1) := by decide +kernel
theorem dX0_remember_27 : decode cX0_remember 27 = .ok (.dup, 1) := by decide +kernel
theorem dX0_remember_28 : decode cX0_remember 28 = .ok (.getfield 16, 3) := by decide +kernel
theorem dX0_remember_31 : decode cX0_remember 31 = .ok (.iconst 1, 1) := by decide +kernel
theorem dX0_remember_32 : decode cX0_remember 32 = .ok (.iadd, 1) := by decide +kernel
theorem dX0_remember_33 : decode cX0_remember 33 = .ok (.putfield 16, 3) := by decide +kernel
theorem dX0_remember_36 : decode cX0_remember 36 = .ok (.return_, 1) := by decide +kernel
theorem dX0_forgetFirst_0 : decode cX0_forgetFirst 0 = .ok (.iconst 1, 1) := by decide +kernel
theorem dX0_forgetFirst_1 : decode cX0_forgetFirst 1 = .ok (.istore_n 1, 1) := by decide +kernel
theorem dX0_forgetFirst_2 : decode cX0_forgetFirst 2 = .ok (.iload_n 1, 1) := by decide +kernel
theorem dX0_forgetFirst_3 : decode cX0_forgetFirst 3 = .ok (.bipush 14, 2) := by decide +kernel
theorem dX0_forgetFirst_5 : decode cX0_forgetFirst 5 = .ok (.if_icmp .ge 29, 3) := by decide +kernel
theorem dX0_forgetFirst_8 : decode cX0_forgetFirst 8 = .ok (.aload_n 0, 1) := by decide +kernel
theorem dX0_forgetFirst_9 : decode cX0_forgetFirst 9 = .ok (.getfield 11, 3) := by decide +kernel
theorem dX0_forgetFirst_12 : decode cX0_forgetFirst 12 = .ok (.iload_n 1, 1) := by decide +kernel
theorem dX0_forgetFirst_13 : decode cX0_forgetFirst 13 = .ok (.aaload, 1) := by decide +kernel
theorem dX0_forgetFirst_14 : decode cX0_forgetFirst 14 = .ok (.iconst 0, 1) := by decide +kernel
theorem dX0_forgetFirst_15 : decode cX0_forgetFirst 15 = .ok (.aload_n 0, 1) := by decide +kernel
theorem dX0_forgetFirst_16 : decode cX0_forgetFirst 16 = .ok (.getfield 11, 3) := by decide +kernel
theorem dX0_forgetFirst_19 : decode cX0_forgetFirst 19 = .ok (.iload_n 1, 1) := by decide +kernel
theorem dX0_forgetFirst_20 : decode cX0_forgetFirst 20 = .ok (.iconst 1, 1) := by decide +kernel
theorem dX0_forgetFirst_21 : decode cX0_forgetFirst 21 = .ok (.isub, 1) := by decide +kernel
theorem dX0_forgetFirst_22 : decode cX0_forgetFirst 22 = .ok (.aaload, 1) := by decide +kernel
theorem dX0_forgetFirst_23 : decode cX0_forgetFirst 23 = .ok (.iconst 0, 1) := by decide +kernel
theorem dX0_forgetFirst_24 : decode cX0_forgetFirst 24 = .ok (.iconst 5, 1) := by decide +kernel
theorem dX0_forgetFirst_25 : decode cX0_forgetFirst 25 = .ok (.invokestatic 29, 3) := by decide +kernel
theorem dX0_forgetFirst_28 : decode cX0_forgetFirst 28 = .ok (.iinc 1 1, 3) := by decide +kernel
theorem dX0_forgetFirst_31 : decode cX0_forgetFirst 31 = .ok (.goto (-29), 3) := by decide +kernel
theorem dX0_forgetFirst_34 : decode cX0_forgetFirst 34 = .ok (.aload_n 0, 1) := by decide +kernel
theorem dX0_forgetFirst_35 : decode cX0_forgetFirst 35 = .ok (.bipush 13, 2) := by decide +kernel
theorem dX0_forgetFirst_37 : decode cX0_forgetFirst 37 = .ok (.putfield 16, 3) := by decide +kernel
theorem dX0_forgetFirst_40 : decode cX0_forgetFirst 40 = .ok (.return_, 1) := by decide +kernel
theorem dX0_takeBack_0 : decode cX0_takeBack 0 = .ok (.aload_n 0, 1) := by decide +kernel
theorem dX0_takeBack_1 : decode cX0_takeBack 1 = .ok (.getfield 16, 3) := by decide +kernel
theorem dX0_takeBack_4 : decode cX0_takeBack 4 = .ok (.ifCond .gt 5, 3) := by decide +kernel
theorem dX0_takeBack_7 : decode cX0_takeBack 7 = .ok (.iconst 0, 1) := by decide +kernel
theorem dX0_takeBack_8 : decode cX0_takeBack 8 = .ok (.ireturn, 1) := by decide +kernel
theorem dX0_takeBack_9 : decode cX0_takeBack 9 = .ok (.aload_n 0, 1) := by decide +kernel
theorem dX0_takeBack_10 : decode cX0_takeBack 10 = .ok (.dup, 1) := by decide +kernel
theorem dX0_takeBack_11 : decode cX0_takeBack 11 = .ok (.getfield 16, 3) := by decide +kernel
theorem dX0_takeBack_14 : decode cX0_takeBack 14 = .ok (.iconst 1, 1) := by decide +kernel
theorem dX0_takeBack_15 : decode cX0_takeBack 15 = .ok (.isub, 1) := by decide +kernel
theorem dX0_takeBack_16 : decode cX0_takeBack 16 = .ok (.putfield 16, 3) := by decide +kernel
theorem dX0_takeBack_19 : decode cX0_takeBack 19 = .ok (.aload_n 1, 1) := by decide +kernel
theorem dX0_takeBack_20 : decode cX0_takeBack 20 = .ok (.aload_n 0, 1) := by decide +kernel
theorem dX0_takeBack_21 : decode cX0_takeBack 21 = .ok (.getfield 11, 3) := by decide +kernel
theorem dX0_takeBack_24 : decode cX0_takeBack 24 = .ok (.aload_n 0, 1) := by decide +kernel
theorem dX0_takeBack_25 : decode cX0_takeBack 25 = .ok (.getfield 16, 3) := by decide +kernel
theorem dX0_takeBack_28 : decode cX0_takeBack 28 = .ok (.aaload, 1) := by decide +kernel
theorem dX0_takeBack_29 : decode cX0_takeBack 29 = .ok (.invokevirtual 35, 3) := by decide +kernel
theorem dX0_takeBack_32 : decode cX0_takeBack 32 = .ok (.iconst 1, 1) := by decide +kernel
theorem dX0_takeBack_33 : decode cX0_takeBack 33 = .ok (.ireturn, 1) := by decide +kernel
theorem dX1_init_0 : decode cX1_init 0 = .ok (.aload_n 0, 1) := by decide +kernel
theorem dX1_init_1 : decode cX1_init 1 = .ok (.invokespecial 3, 3) := by decide +kernel
theorem dX1_init_4 : decode cX1_init 4 = .ok (.aload_n 0, 1) := by decide +kernel
theorem dX1_init_5 : decode cX1_init 5 = .ok (.bipush 6, 2) := by decide +kernel
theorem dX1_init_7 : decode cX1_init 7 = .ok (.newarray .int, 2) := by decide +kernel
theorem dX1_init_9 : decode cX1_init 9 = .ok (.putfield 9, 3) := by decide +kernel
theorem dX1_init_12 : decode cX1_init 12 = .ok (.aload_n 0, 1) := by decide +kernel
theorem dX1_init_13 : decode cX1_init 13 = .ok (.bipush 48, 2) := by decide +kernel
theorem dX1_init_15 : decode cX1_init 15 = .ok (.newarray .int, 2) := by decide +kernel
theorem dX1_init_17 : decode cX1_init 17 = .ok (.putfield 15, 3) := by decide +kernel
theorem dX1_init_20 : decode cX1_init 20 = .ok (.return_, 1) := by decide +kernel
theorem dX1_take_0 : decode cX1_take 0 = .ok (.aload_n 0, 1) := by decide +kernel
theorem dX1_take_1 : decode cX1_take 1 = .ok (.aload_n 1, 1) := by decide +kernel
theorem dX1_take_2 : decode cX1_take 2 = .ok (.invokevirtual 18, 3) := by decide +kernel
theorem dX1_take_5 : decode cX1_take 5 = .ok (.bipush 10, 2) := by decide +kernel
theorem dX1_take_7 : decode cX1_take 7 = .ok (.idiv, 1) := by decide +kernel
theorem dX1_take_8 : decode cX1_take 8 = .ok (.bipush 6, 2) := by decide +kernel
theorem dX1_take_10 : decode cX1_take 10 = .ok (.invokestatic 24, 3) := by decide +kernel
theorem dX1_take_13 : decode cX1_take 13 = .ok (.putfield 30, 3) := by decide +kernel
theorem dX1_take_16 : decode cX1_take 16 = .ok (.iconst 0, 1) := by decide +kernel
theorem dX1_take_17 : decode cX1_take 17 = .ok (.istore_n 2, 1) := by decide +kernel
theorem dX1_take_18 : decode cX1_take 18 = .ok (.iload_n 2, 1) := by decide +kernel
theorem dX1_take_19 : decode cX1_take 19 = .ok (.aload_n 0, 1) := by decide +kernel
theorem dX1_take_20 : decode cX1_take 20 = .ok (.getfield 30, 3) := by decide +kernel
theorem dX1_take_23 : decode cX1_take 23 = .ok (.if_icmp .ge 70, 3) := by decide +kernel
theorem dX1_take_26 : decode cX1_take 26 = .ok (.iconst 1, 1) := by decide +kernel
theorem dX1_take_27 : decode cX1_take 27 = .ok (.bipush 10, 2) := by decide +kernel
theorem dX1_take_29 : decode cX1_take 29 = .ok (.iload_n 2, 1) := by decide +kernel
theorem dX1_take_30 : decode cX1_take 30 = .ok (.imul, 1) := by decide +kernel
theorem dX1_take_31 : decode cX1_take 31 = .ok (.iadd, 1) := by decide +kernel
theorem dX1_take_32 : decode cX1_take 32 = .ok (.istore_n 3, 1) := by decide +kernel
theorem dX1_take_33 : decode cX1_take 33 = .ok (.aload_n 0, 1) := by decide +kernel
theorem dX1_take_34 : decode cX1_take 34 = .ok (.getfield 9, 3) := by decide +kernel
theorem dX1_take_37 : decode cX1_take 37 = .ok (.iload_n 2, 1) := by decide +kernel
theorem dX1_take_38 : decode cX1_take 38 = .ok (.aload_n 1, 1) := by decide +kernel
theorem dX1_take_39 : decode cX1_take 39 = .ok (.iload_n 3, 1) := by decide +kernel
theorem dX1_take_40 : decode cX1_take 40 = .ok (.iconst 1, 1) := by decide +kernel
theorem dX1_take_41 : decode cX1_take 41 = .ok (.iadd, 1) := by decide +kernel
theorem dX1_take_42 : decode cX1_take 42 = .ok (.invokevirtual 34, 3) := by decide +kernel
theorem dX1_take_45 : decode cX1_take 45 = .ok (.bipush 48, 2) := by decide +kernel
theorem dX1_take_47 : decode cX1_take 47 = .ok (.isub, 1) := by decide +kernel
theorem dX1_take_48 : decode cX1_take 48 = .ok (.iastore, 1) := by decide +kernel
theorem dX1_take_49 : decode cX1_take 49 = .ok (.iconst 0, 1) := by decide +kernel
theorem dX1_take_50 : decode cX1_take 50 = .ok (.istore 4, 2) := by decide +kernel
theorem dX1_take_52 : decode cX1_take 52 = .ok (.iload 4, 2) := by decide +kernel
theorem dX1_take_54 : decode cX1_take 54 = .ok (.bipush 8, 2) := by decide +kernel
theorem dX1_take_56 : decode cX1_take 56 = .ok (.if_icmp .ge 31, 3) := by decide +kernel
theorem dX1_take_59 : decode cX1_take 59 = .ok (.aload_n 0, 1) := by decide +kernel
theorem dX1_take_60 : decode cX1_take 60 = .ok (.getfield 15, 3) := by decide +kernel
theorem dX1_take_63 : decode cX1_take 63 = .ok (.iload_n 2, 1) := by decide +kernel
theorem dX1_take_64 : decode cX1_take 64 = .ok (.bipush 8, 2) := by decide +kernel
theorem dX1_take_66 : decode cX1_take 66 = .ok (.imul, 1) := by decide +kernel
theorem dX1_take_67 : decode cX1_take 67 = .ok (.iload 4, 2) := by decide +kernel
theorem dX1_take_69 : decode cX1_take 69 = .ok (.iadd, 1) := by decide +kernel
theorem dX1_take_70 : decode cX1_take 70 = .ok (.aload_n 1, 1) := by decide +kernel
theorem dX1_take_71 : decode cX1_take 71 = .ok (.iload_n 3, 1) := by decide +kernel
theorem dX1_take_72 : decode cX1_take 72 = .ok (.iconst 2, 1) := by decide +kernel
theorem dX1_take_73 : decode cX1_take 73 = .ok (.iadd, 1) := by decide +kernel
theorem dX1_take_74 : decode cX1_take 74 = .ok (.iload 4, 2) := by decide +kernel
theorem dX1_take_76 : decode cX1_take 76 = .ok (.iadd, 1) := by decide +kernel
theorem dX1_take_77 : decode cX1_take 77 = .ok (.invokevirtual 34, 3) := by decide +kernel
theorem dX1_take_80 : decode cX1_take 80 = .ok (.iastore, 1) := by decide +kernel
theorem dX1_take_81 : decode cX1_take 81 = .ok (.iinc 4 1, 3) := by decide +kernel
theorem dX1_take_84 : decode cX1_take 84 = .ok (.goto (-32), 3) := by decide +kernel
theorem dX1_take_87 : decode cX1_take 87 = .ok (.iinc 2 1, 3) := by decide +kernel
theorem dX1_take_90 : decode cX1_take 90 = .ok (.goto (-72), 3) := by decide +kernel
theorem dX1_take_93 : decode cX1_take 93 = .ok (.return_, 1) := by decide +kernel
theorem dX1_size_0 : decode cX1_size 0 = .ok (.aload_n 0, 1) := by decide +kernel
theorem dX1_size_1 : decode cX1_size 1 = .ok (.getfield 30, 3) := by decide +kernel
theorem dX1_size_4 : decode cX1_size 4 = .ok (.ireturn, 1) := by decide +kernel
theorem dX1_has_0 : decode cX1_has 0 = .ok (.iload_n 1, 1) := by decide +kernel
theorem dX1_has_1 : decode cX1_has 1 = .ok (.ifCond .lt 15, 3) := by decide +kernel
theorem dX1_has_4 : decode cX1_has 4 = .ok (.iload_n 1, 1) := by decide +kernel
theorem dX1_has_5 : decode cX1_has 5 = .ok (.aload_n 0, 1) := by decide +kernel
theorem dX1_has_6 : decode cX1_has 6 = .ok (.getfield 30, 3) := by decide +kernel
theorem dX1_has_9 : decode cX1_has 9 = .ok (.if_icmp .ge 7, 3) := by decide +kernel
theorem dX1_has_12 : decode cX1_has 12 = .ok (.iconst 1, 1) := by decide +kernel
theorem dX1_has_13 : decode cX1_has 13 = .ok (.goto 4, 3) := by decide +kernel
theorem dX1_has_16 : decode cX1_has 16 = .ok (.iconst 0, 1) := by decide +kernel
theorem dX1_has_17 : decode cX1_has 17 = .ok (.ireturn, 1) := by decide +kernel
theorem dX1_hasGap_0 : decode cX1_hasGap 0 = .ok (.iload_n 1, 1) := by decide +kernel
theorem dX1_hasGap_1 : decode cX1_hasGap 1 = .ok (.ifCond .lt 17, 3) := by decide +kernel
theorem dX1_hasGap_4 : decode cX1_hasGap 4 = .ok (.iload_n 1, 1) := by decide +kernel
theorem dX1_hasGap_5 : decode cX1_hasGap 5 = .ok (.aload_n 0, 1) := by decide +kernel
theorem dX1_hasGap_6 : decode cX1_hasGap 6 = .ok (.getfield 30, 3) := by decide +kernel
theorem dX1_hasGap_9 : decode cX1_hasGap 9 = .ok (.iconst 1, 1) := by decide +kernel
theorem dX1_hasGap_10 : decode cX1_hasGap 10 = .ok (.isub, 1) := by decide +kernel
theorem dX1_hasGap_11 : decode cX1_hasGap 11 = .ok (.if_icmp .ge 7, 3) := by decide +kernel
theorem dX1_hasGap_14 : decode cX1_hasGap 14 = .ok (.iconst 1, 1) := by decide +kernel
theorem dX1_hasGap_15 : decode cX1_hasGap 15 = .ok (.goto 4, 3) := by decide +kernel
theorem dX1_hasGap_18 : decode cX1_hasGap 18 = .ok (.iconst 0, 1) := by decide +kernel
theorem dX1_hasGap_19 : decode cX1_hasGap 19 = .ok (.ireturn, 1) := by decide +kernel
theorem dX1_canPart_0 : decode cX1_canPart 0 = .ok (.iload_n 1, 1) := by decide +kernel
theorem dX1_canPart_1 : decode cX1_canPart 1 = .ok (.ifCond .lt 27, 3) := by decide +kernel
theorem dX1_canPart_4 : decode cX1_canPart 4 = .ok (.iload_n 1, 1) := by decide +kernel
theorem dX1_canPart_5 : decode cX1_canPart 5 = .ok (.aload_n 0, 1) := by decide +kernel
theorem dX1_canPart_6 : decode cX1_canPart 6 = .ok (.getfield 30, 3) := by decide +kernel
theorem dX1_canPart_9 : decode cX1_canPart 9 = .ok (.iconst 1, 1) := by decide +kernel
theorem dX1_canPart_10 : decode cX1_canPart 10 = .ok (.isub, 1) := by decide +kernel
theorem dX1_canPart_11 : decode cX1_canPart 11 = .ok (.if_icmp .ge 17, 3) := by decide +kernel
theorem dX1_canPart_14 : decode cX1_canPart 14 = .ok (.aload_n 0, 1) := by decide +kernel
theorem dX1_canPart_15 : decode cX1_canPart 15 = .ok (.getfield 9, 3) := by decide +kernel
theorem dX1_canPart_18 : decode cX1_canPart 18 = .ok (.iload_n 1, 1) := by decide +kernel
theorem dX1_canPart_19 : decode cX1_canPart 19 = .ok (.iaload, 1) := by decide +kernel
theorem dX1_canPart_20 : decode cX1_canPart 20 = .ok (.iconst 3, 1) := by decide +kernel
theorem dX1_canPart_21 : decode cX1_canPart 21 = .ok (.if_icmp .eq 7, 3) := by decide +kernel
theorem dX1_canPart_24 : decode cX1_canPart 24 = .ok (.iconst 1, 1) := by decide +kernel
theorem dX1_canPart_25 : decode cX1_canPart 25 = .ok (.goto 4, 3) := by decide +kernel
theorem dX1_canPart_28 : decode cX1_canPart 28 = .ok (.iconst 0, 1) := by decide +kernel
theorem dX1_canPart_29 : decode cX1_canPart 29 = .ok (.ireturn, 1) := by decide +kernel
theorem dX1_kindOf_0 : decode cX1_kindOf 0 = .ok (.iload_n 1, 1) := by decide +kernel
theorem dX1_kindOf_1 : decode cX1_kindOf 1 = .ok (.ifCond .lt 20, 3) := by decide +kernel
theorem dX1_kindOf_4 : decode cX1_kindOf 4 = .ok (.iload_n 1, 1) := by decide +kernel
theorem dX1_kindOf_5 : decode cX1_kindOf 5 = .ok (.aload_n 0, 1) := by decide +kernel
theorem dX1_kindOf_6 : decode cX1_kindOf 6 = .ok (.getfield 30, 3) := by decide +kernel
theorem dX1_kindOf_9 : decode cX1_kindOf 9 = .ok (.if_icmp .ge 12, 3) := by decide +kernel
theorem dX1_kindOf_12 : decode cX1_kindOf 12 = .ok (.aload_n 0, 1) := by decide +kernel
theorem dX1_kindOf_13 : decode cX1_kindOf 13 = .ok (.getfield 9, 3) := by decide +kernel
theorem dX1_kindOf_16 : decode cX1_kindOf 16 = .ok (.iload_n 1, 1) := by decide +kernel
theorem dX1_kindOf_17 : decode cX1_kindOf 17 = .ok (.iaload, 1) := by decide +kernel
theorem dX1_kindOf_18 : decode cX1_kindOf 18 = .ok (.goto 5, 3) := by decide +kernel
theorem dX1_kindOf_21 : decode cX1_kindOf 21 = .ok (.bipush (-9), 2) := by decide +kernel
theorem dX1_kindOf_23 : decode cX1_kindOf 23 = .ok (.ireturn, 1) := by decide +kernel
theorem dX1_widthOf_0 : decode cX1_widthOf 0 = .ok (.aload_n 0, 1) := by decide +kernel
theorem dX1_widthOf_1 : decode cX1_widthOf 1 = .ok (.iload_n 1, 1) := by decide +kernel
theorem dX1_widthOf_2 : decode cX1_widthOf 2 = .ok (.invokevirtual 38, 3) := by decide +kernel
theorem dX1_widthOf_5 : decode cX1_widthOf 5 = .ok (.iconst 2, 1) := by decide +kernel
theorem dX1_widthOf_6 : decode cX1_widthOf 6 = .ok (.if_icmp .ne 7, 3) := by decide +kernel
theorem dX1_widthOf_9 : decode cX1_widthOf 9 = .ok (.iconst 2, 1) := by decide +kernel
theorem dX1_widthOf_10 : decode cX1_widthOf 10 = .ok (.goto 4, 3) := by decide +kernel
theorem dX1_widthOf_13 : decode cX1_widthOf 13 = .ok (.iconst 4, 1) := by decide +kernel
theorem dX1_widthOf_14 : decode cX1_widthOf 14 = .ok (.ireturn, 1) := by decide +kernel
theorem dX1_isSolid_0 : decode cX1_isSolid 0 = .ok (.iload_n 1, 1) := by decide +kernel
theorem dX1_isSolid_1 : decode cX1_isSolid 1 = .ok (.ifCond .lt 20, 3) := by decide +kernel
theorem dX1_isSolid_4 : decode cX1_isSolid 4 = .ok (.iload_n 1, 1) := by decide +kernel
theorem dX1_isSolid_5 : decode cX1_isSolid 5 = .ok (.aload_n 0, 1) := by decide +kernel
theorem dX1_isSolid_6 : decode cX1_isSolid 6 = .ok (.getfield 30, 3) := by decide +kernel
theorem dX1_isSolid_9 : decode cX1_isSolid 9 = .ok (.if_icmp .ge 12, 3) := by decide +kernel
theorem dX1_isSolid_12 : decode cX1_isSolid 12 = .ok (.iload_n 2, 1) := by decide +kernel
theorem dX1_isSolid_13 : decode cX1_isSolid 13 = .ok (.ifCond .lt 8, 3) := by decide +kernel
theorem dX1_isSolid_16 : decode cX1_isSolid 16 = .ok (.iload_n 2, 1) := by decide +kernel
theorem dX1_isSolid_17 : decode cX1_isSolid 17 = .ok (.iconst 4, 1) := by decide +kernel
theorem dX1_isSolid_18 : decode cX1_isSolid 18 = .ok (.if_icmp .lt 5, 3) := by decide +kernel
theorem dX1_isSolid_21 : decode cX1_isSolid 21 = .ok (.iconst 0, 1) := by decide +kernel
theorem dX1_isSolid_22 : decode cX1_isSolid 22 = .ok (.ireturn, 1) := by decide +kernel
theorem dX1_isSolid_23 : decode cX1_isSolid 23 = .ok (.aload_n 0, 1) := by decide +kernel
theorem dX1_isSolid_24 : decode cX1_isSolid 24 = .ok (.getfield 9, 3) := by decide +kernel
theorem dX1_isSolid_27 : decode cX1_isSolid 27 = .ok (.iload_n 1, 1) := by decide +kernel
theorem dX1_isSolid_28 : decode cX1_isSolid 28 = .ok (.iaload, 1) := by decide +kernel
theorem dX1_isSolid_29 : decode cX1_isSolid 29 = .ok (.lookupswitch 50 #[(1, 27), (2, 39)], 27) := by decide +kernel
theorem dX1_isSolid_56 : decode cX1_isSolid 56 = .ok (.iload_n 2, 1) := by decide +kernel
theorem dX1_isSolid_57 : decode cX1_isSolid 57 = .ok (.iconst 2, 1) := by decide +kernel
theorem dX1_isSolid_58 : decode cX1_isSolid 58 = .ok (.irem, 1) := by decide +kernel
theorem dX1_isSolid_59 : decode cX1_isSolid 59 = .ok (.ifCond .ne 7, 3) := by decide +kernel
theorem dX1_isSolid_62 : decode cX1_isSolid 62 = .ok (.iconst 1, 1) := by decide +kernel
theorem dX1_isSolid_63 : decode cX1_isSolid 63 = .ok (.goto 4, 3) := by decide +kernel
theorem dX1_isSolid_66 : decode cX1_isSolid 66 = .ok (.iconst 0, 1) := by decide +kernel
theorem dX1_isSolid_67 : decode cX1_isSolid 67 = .ok (.ireturn, 1) := by decide +kernel
theorem dX1_isSolid_68 : decode cX1_isSolid 68 = .ok (.iload_n 2, 1) := by decide +kernel
theorem dX1_isSolid_69 : decode cX1_isSolid 69 = .ok (.iconst 2, 1) := by decide +kernel
theorem dX1_isSolid_70 : decode cX1_isSolid 70 = .ok (.if_icmp .ge 7, 3) := by decide +kernel
theorem dX1_isSolid_73 : decode cX1_isSolid 73 = .ok (.iconst 1, 1) := by decide +kernel
theorem dX1_isSolid_74 : decode cX1_isSolid 74 = .ok (.goto 4, 3) := by decide +kernel
theorem dX1_isSolid_77 : decode cX1_isSolid 77 = .ok (.iconst 0, 1) := by decide +kernel
theorem dX1_isSolid_78 : decode cX1_isSolid 78 = .ok (.ireturn, 1) := by decide +kernel
theorem dX1_isSolid_79 : decode cX1_isSolid 79 = .ok (.iconst 1, 1) := by decide +kernel
theorem dX1_isSolid_80 : decode cX1_isSolid 80 = .ok (.ireturn, 1) := by decide +kernel
theorem dX1_markOf_0 : decode cX1_markOf 0 = .ok (.iload_n 1, 1) := by decide +kernel
theorem dX1_markOf_1 : decode cX1_markOf 1 = .ok (.bipush 8, 2) := by decide +kernel
theorem dX1_markOf_3 : decode cX1_markOf 3 = .ok (.imul, 1) := by decide +kernel
theorem dX1_markOf_4 : decode cX1_markOf 4 = .ok (.iload_n 2, 1) := by decide +kernel
theorem dX1_markOf_5 : decode cX1_markOf 5 = .ok (.iconst 4, 1) := by decide +kernel
theorem dX1_markOf_6 : decode cX1_markOf 6 = .ok (.imul, 1) := by decide +kernel
theorem dX1_markOf_7 : decode cX1_markOf 7 = .ok (.iadd, 1) := by decide +kernel
theorem dX1_markOf_8 : decode cX1_markOf 8 = .ok (.iload_n 3, 1) := by decide +kernel
theorem dX1_markOf_9 : decode cX1_markOf 9 = .ok (.iadd, 1) := by decide +kernel
theorem dX1_markOf_10 : decode cX1_markOf 10 = .ok (.ireturn, 1) := by decide +kernel
theorem dX1_letterOf_0 : decode cX1_letterOf 0 = .ok (.iload_n 1, 1) := by decide +kernel
theorem dX1_letterOf_1 : decode cX1_letterOf 1 = .ok (.ifCond .lt 21, 3) := by decide +kernel
theorem dX1_letterOf_4 : decode cX1_letterOf 4 = .ok (.iload_n 1, 1) := by decide +kernel
theorem dX1_letterOf_5 : decode cX1_letterOf 5 = .ok (.aload_n 0, 1) := by decide +kernel
theorem dX1_letterOf_6 : decode cX1_letterOf 6 = .ok (.getfield 15, 3) := by decide +kernel
theorem dX1_letterOf_9 : decode cX1_letterOf 9 = .ok (.arraylength, 1) := by decide +kernel
theorem dX1_letterOf_10 : decode cX1_letterOf 10 = .ok (.if_icmp .ge 12, 3) := by decide +kernel
theorem dX1_letterOf_13 : decode cX1_letterOf 13 = .ok (.aload_n 0, 1) := by decide +kernel
theorem dX1_letterOf_14 : decode cX1_letterOf 14 = .ok (.getfield 15, 3) := by decide +kernel
theorem dX1_letterOf_17 : decode cX1_letterOf 17 = .ok (.iload_n 1, 1) := by decide +kernel
theorem dX1_letterOf_18 : decode cX1_letterOf 18 = .ok (.iaload, 1) := by decide +kernel
theorem dX1_letterOf_19 : decode cX1_letterOf 19 = .ok (.goto 5, 3) := by decide +kernel
theorem dX1_letterOf_22 : decode cX1_letterOf 22 = .ok (.bipush (-9), 2) := by decide +kernel
theorem dX1_letterOf_24 : decode cX1_letterOf 24 = .ok (.ireturn, 1) := by decide +kernel
theorem dX2_init_0 : decode cX2_init 0 = .ok (.aload_n 0, 1) := by decide +kernel
theorem dX2_init_1 : decode cX2_init 1 = .ok (.invokespecial 3, 3) := by decide +kernel
theorem dX2_init_4 : decode cX2_init 4 = .ok (.aload_n 0, 1) := by decide +kernel
theorem dX2_init_5 : decode cX2_init 5 = .ok (.iconst 5, 1) := by decide +kernel
theorem dX2_init_6 : decode cX2_init 6 = .ok (.newarray .int, 2) := by decide +kernel
theorem dX2_init_8 : decode cX2_init 8 = .ok (.putfield 9, 3) := by decide +kernel
theorem dX2_init_11 : decode cX2_init 11 = .ok (.aload_n 0, 1) := by decide +kernel
theorem dX2_init_12 : decode cX2_init 12 = .ok (.aload_n 1, 1) := by decide +kernel
theorem dX2_init_13 : decode cX2_init 13 = .ok (.putfield 15, 3) := by decide +kernel
theorem dX2_init_16 : decode cX2_init 16 = .ok (.return_, 1) := by decide +kernel
theorem dX2_at_0 : decode cX2_at 0 = .ok (.iload_n 1, 1) := by decide +kernel
theorem dX2_at_1 : decode cX2_at 1 = .ok (.ifCond .lt 17, 3) := by decide +kernel
theorem dX2_at_4 : decode cX2_at 4 = .ok (.iload_n 1, 1) := by decide +kernel
theorem dX2_at_5 : decode cX2_at 5 = .ok (.iconst 5, 1) := by decide +kernel
theorem dX2_at_6 : decode cX2_at 6 = .ok (.if_icmp .ge 12, 3) := by decide +kernel
theorem dX2_at_9 : decode cX2_at 9 = .ok (.aload_n 0, 1) := by decide +kernel
theorem dX2_at_10 : decode cX2_at 10 = .ok (.getfield 9, 3) := by decide +kernel
theorem dX2_at_13 : decode cX2_at 13 = .ok (.iload_n 1, 1) := by decide +kernel
theorem dX2_at_14 : decode cX2_at 14 = .ok (.iaload, 1) := by decide +kernel
theorem dX2_at_15 : decode cX2_at 15 = .ok (.goto 4, 3) := by decide +kernel
theorem dX2_at_18 : decode cX2_at 18 = .ok (.iconst 0, 1) := by decide +kernel
theorem dX2_at_19 : decode cX2_at 19 = .ok (.ireturn, 1) := by decide +kernel
theorem dX2_canWiden_0 : decode cX2_canWiden 0 = .ok (.aload_n 0, 1) := by decide +kernel
theorem dX2_canWiden_1 : decode cX2_canWiden 1 = .ok (.getfield 15, 3) := by decide +kernel
theorem dX2_canWiden_4 : decode cX2_canWiden 4 = .ok (.iload_n 1, 1) := by decide +kernel
theorem dX2_canWiden_5 : decode cX2_canWiden 5 = .ok (.invokevirtual 19, 3) := by decide +kernel
theorem dX2_canWiden_8 : decode cX2_canWiden 8 = .ok (.ifCond .eq 17, 3) := by decide +kernel
theorem dX2_canWiden_11 : decode cX2_canWiden 11 = .ok (.aload_n 0, 1) := by decide +kernel
theorem dX2_canWiden_12 : decode cX2_canWiden 12 = .ok (.getfield 9, 3) := by decide +kernel
theorem dX2_canWiden_15 : decode cX2_canWiden 15 = .ok (.iload_n 1, 1) := by decide +kernel
theorem dX2_canWiden_16 : decode cX2_canWiden 16 = .ok (.iaload, 1) := by decide +kernel
theorem dX2_canWiden_17 : decode cX2_canWiden 17 = .ok (.iconst 4, 1) := by decide +kernel
theorem dX2_canWiden_18 : decode cX2_canWiden 18 = .ok (.if_icmp .ge 7, 3) := by decide +kernel
theorem dX2_canWiden_21 : decode cX2_canWiden 21 = .ok (.iconst 1, 1) := by decide +kernel
theorem dX2_canWiden_22 : decode cX2_canWiden 22 = .ok (.goto 4, 3) := by decide +kernel
theorem dX2_canWiden_25 : decode cX2_canWiden 25 = .ok (.iconst 0, 1) := by decide +kernel
theorem dX2_canWiden_26 : decode cX2_canWiden 26 = .ok (.ireturn, 1) := by decide +kernel
theorem dX2_canNarrow_0 : decode cX2_canNarrow 0 = .ok (.aload_n 0, 1) := by decide +kernel
theorem dX2_canNarrow_1 : decode cX2_canNarrow 1 = .ok (.getfield 15, 3) := by decide +kernel
theorem dX2_canNarrow_4 : decode cX2_canNarrow 4 = .ok (.iload_n 1, 1) := by decide +kernel
theorem dX2_canNarrow_5 : decode cX2_canNarrow 5 = .ok (.invokevirtual 19, 3) := by decide +kernel
theorem dX2_canNarrow_8 : decode cX2_canNarrow 8 = .ok (.ifCond .eq 16, 3) := by decide +kernel
theorem dX2_canNarrow_11 : decode cX2_canNarrow 11 = .ok (.aload_n 0, 1) := by decide +kernel
theorem dX2_canNarrow_12 : decode cX2_canNarrow 12 = .ok (.getfield 9, 3) := by decide +kernel
theorem dX2_canNarrow_15 : decode cX2_canNarrow 15 = .ok (.iload_n 1, 1) := by decide +kernel
theorem dX2_canNarrow_16 : decode cX2_canNarrow 16 = .ok (.iaload, 1) := by decide +kernel
theorem dX2_canNarrow_17 : decode cX2_canNarrow 17 = .ok (.ifCond .le 7, 3) := by decide +kernel
theorem dX2_canNarrow_20 : decode cX2_canNarrow 20 = .ok (.iconst 1, 1) := by decide +kernel
theorem dX2_canNarrow_21 : decode cX2_canNarrow 21 = .ok (.goto 4, 3) := by decide +kernel
theorem dX2_canNarrow_24 : decode cX2_canNarrow 24 = .ok (.iconst 0, 1) := by decide +kernel
theorem dX2_canNarrow_25 : decode cX2_canNarrow 25 = .ok (.ireturn, 1) := by decide +kernel
theorem dX2_widen_0 : decode cX2_widen 0 = .ok (.aload_n 0, 1) := by decide +kernel
theorem dX2_widen_1 : decode cX2_widen 1 = .ok (.iload_n 1, 1) := by decide +kernel
theorem dX2_widen_2 : decode cX2_widen 2 = .ok (.invokevirtual 25, 3) := by decide +kernel
theorem dX2_widen_5 : decode cX2_widen 5 = .ok (.ifCond .ne 5, 3) := by decide +kernel
theorem dX2_widen_8 : decode cX2_widen 8 = .ok (.iconst 0, 1) := by decide +kernel
theorem dX2_widen_9 : decode cX2_widen 9 = .ok (.ireturn, 1) := by decide +kernel
theorem dX2_widen_10 : decode cX2_widen 10 = .ok (.aload_n 0, 1) := by decide +kernel
theorem dX2_widen_11 : decode cX2_widen 11 = .ok (.getfield 9, 3) := by decide +kernel
theorem dX2_widen_14 : decode cX2_widen 14 = .ok (.iload_n 1, 1) := by decide +kernel
theorem dX2_widen_15 : decode cX2_widen 15 = .ok (.dup2, 1) := by decide +kernel
theorem dX2_widen_16 : decode cX2_widen 16 = .ok (.iaload, 1) := by decide +kernel
theorem dX2_widen_17 : decode cX2_widen 17 = .ok (.iconst 1, 1) := by decide +kernel
theorem dX2_widen_18 : decode cX2_widen 18 = .ok (.iadd, 1) := by decide +kernel
theorem dX2_widen_19 : decode cX2_widen 19 = .ok (.iastore, 1) := by decide +kernel
theorem dX2_widen_20 : decode cX2_widen 20 = .ok (.iconst 1, 1) := by decide +kernel
theorem dX2_widen_21 : decode cX2_widen 21 = .ok (.ireturn, 1) := by decide +kernel
theorem dX2_narrow_0 : decode cX2_narrow 0 = .ok (.aload_n 0, 1) := by decide +kernel
theorem dX2_narrow_1 : decode cX2_narrow 1 = .ok (.iload_n 1, 1) := by decide +kernel
theorem dX2_narrow_2 : decode cX2_narrow 2 = .ok (.invokevirtual 28, 3) := by decide +kernel
theorem dX2_narrow_5 : decode cX2_narrow 5 = .ok (.ifCond .ne 5, 3) := by decide +kernel
theorem dX2_narrow_8 : decode cX2_narrow 8 = .ok (.iconst 0, 1) := by decide +kernel
theorem dX2_narrow_9 : decode cX2_narrow 9 = .ok (.ireturn, 1) := by decide +kernel
theorem dX2_narrow_10 : decode cX2_narrow 10 = .ok (.aload_n 0, 1) := by decide +kernel
theorem dX2_narrow_11 : decode cX2_narrow 11 = .ok (.getfield 9, 3) := by decide +kernel
theorem dX2_narrow_14 : decode cX2_narrow 14 = .ok (.iload_n 1, 1) := by decide +kernel
theorem dX2_narrow_15 : decode cX2_narrow 15 = .ok (.dup2, 1) := by decide +kernel
theorem dX2_narrow_16 : decode cX2_narrow 16 = .ok (.iaload, 1) := by decide +kernel
theorem dX2_narrow_17 : decode cX2_narrow 17 = .ok (.iconst 1, 1) := by decide +kernel
theorem dX2_narrow_18 : decode cX2_narrow 18 = .ok (.isub, 1) := by decide +kernel
theorem dX2_narrow_19 : decode cX2_narrow 19 = .ok (.iastore, 1) := by decide +kernel
theorem dX2_narrow_20 : decode cX2_narrow 20 = .ok (.iconst 1, 1) := by decide +kernel
theorem dX2_narrow_21 : decode cX2_narrow 21 = .ok (.ireturn, 1) := by decide +kernel
theorem dX2_widenAll_0 : decode cX2_widenAll 0 = .ok (.iconst 0, 1) := by decide +kernel
theorem dX2_widenAll_1 : decode cX2_widenAll 1 = .ok (.istore_n 1, 1) := by decide +kernel
theorem dX2_widenAll_2 : decode cX2_widenAll 2 = .ok (.iconst 0, 1) := by decide +kernel
theorem dX2_widenAll_3 : decode cX2_widenAll 3 = .ok (.istore_n 2, 1) := by decide +kernel
theorem dX2_widenAll_4 : decode cX2_widenAll 4 = .ok (.iload_n 2, 1) := by decide +kernel
theorem dX2_widenAll_5 : decode cX2_widenAll 5 = .ok (.iconst 5, 1) := by decide +kernel
theorem dX2_widenAll_6 : decode cX2_widenAll 6 = .ok (.if_icmp .ge 20, 3) := by decide +kernel
theorem dX2_widenAll_9 : decode cX2_widenAll 9 = .ok (.aload_n 0, 1) := by decide +kernel
theorem dX2_widenAll_10 : decode cX2_widenAll 10 = .ok (.iload_n 2, 1) := by decide +kernel
theorem dX2_widenAll_11 : decode cX2_widenAll 11 = .ok (.invokevirtual 31, 3) := by decide +kernel
theorem dX2_widenAll_14 : decode cX2_widenAll 14 = .ok (.ifCond .eq 6, 3) := by decide +kernel
theorem dX2_widenAll_17 : decode cX2_widenAll 17 = .ok (.iinc 1 1, 3) := by decide +kernel
theorem dX2_widenAll_20 : decode cX2_widenAll 20 = .ok (.iinc 2 1, 3) := by decide +kernel
theorem dX2_widenAll_23 : decode cX2_widenAll 23 = .ok (.goto (-19), 3) := by decide +kernel
theorem dX2_widenAll_26 : decode cX2_widenAll 26 = .ok (.iload_n 1, 1) := by decide +kernel
theorem dX2_widenAll_27 : decode cX2_widenAll 27 = .ok (.ireturn, 1) := by decide +kernel
theorem dX2_close_0 : decode cX2_close 0 = .ok (.iload_n 1, 1) := by decide +kernel
theorem dX2_close_1 : decode cX2_close 1 = .ok (.ifCond .lt 15, 3) := by decide +kernel
theorem dX2_close_4 : decode cX2_close 4 = .ok (.iload_n 1, 1) := by decide +kernel
theorem dX2_close_5 : decode cX2_close 5 = .ok (.iconst 5, 1) := by decide +kernel
theorem dX2_close_6 : decode cX2_close 6 = .ok (.if_icmp .ge 10, 3) := by decide +kernel
theorem dX2_close_9 : decode cX2_close 9 = .ok (.aload_n 0, 1) := by decide +kernel
theorem dX2_close_10 : decode cX2_close 10 = .ok (.getfield 9, 3) := by decide +kernel
theorem dX2_close_13 : decode cX2_close 13 = .ok (.iload_n 1, 1) := by decide +kernel
theorem dX2_close_14 : decode cX2_close 14 = .ok (.iconst 0, 1) := by decide +kernel
theorem dX2_close_15 : decode cX2_close 15 = .ok (.iastore, 1) := by decide +kernel
theorem dX2_close_16 : decode cX2_close 16 = .ok (.return_, 1) := by decide +kernel
theorem dX2_clear_0 : decode cX2_clear 0 = .ok (.aload_n 0, 1) := by decide +kernel
theorem dX2_clear_1 : decode cX2_clear 1 = .ok (.getfield 9, 3) := by decide +kernel
theorem dX2_clear_4 : decode cX2_clear 4 = .ok (.iconst 0, 1) := by decide +kernel
theorem dX2_clear_5 : decode cX2_clear 5 = .ok (.invokestatic 34, 3) := by decide +kernel
theorem dX2_clear_8 : decode cX2_clear 8 = .ok (.return_, 1) := by decide +kernel
theorem dX2_sum_0 : decode cX2_sum 0 = .ok (.aload_n 0, 1) := by decide +kernel
theorem dX2_sum_1 : decode cX2_sum 1 = .ok (.iconst 5, 1) := by decide +kernel
theorem dX2_sum_2 : decode cX2_sum 2 = .ok (.invokevirtual 40, 3) := by decide +kernel
theorem dX2_sum_5 : decode cX2_sum 5 = .ok (.ireturn, 1) := by decide +kernel
theorem dX2_sumAhead_0 : decode cX2_sumAhead 0 = .ok (.iconst 0, 1) := by decide +kernel
theorem dX2_sumAhead_1 : decode cX2_sumAhead 1 = .ok (.istore_n 2, 1) := by decide +kernel
theorem dX2_sumAhead_2 : decode cX2_sumAhead 2 = .ok (.iconst 0, 1) := by decide +kernel
theorem dX2_sumAhead_3 : decode cX2_sumAhead 3 = .ok (.istore_n 3, 1) := by decide +kernel
theorem dX2_sumAhead_4 : decode cX2_sumAhead 4 = .ok (.iload_n 3, 1) := by decide +kernel
theorem dX2_sumAhead_5 : decode cX2_sumAhead 5 = .ok (.iload_n 1, 1) := by decide +kernel
theorem dX2_sumAhead_6 : decode cX2_sumAhead 6 = .ok (.if_icmp .ge 23, 3) := by decide +kernel
theorem dX2_sumAhead_9 : decode cX2_sumAhead 9 = .ok (.iload_n 3, 1) := by decide +kernel
theorem dX2_sumAhead_10 : decode cX2_sumAhead 10 = .ok (.iconst 5, 1) := by decide +kernel
theorem dX2_sumAhead_11 : decode cX2_sumAhead 11 = .ok (.if_icmp .ge 18, 3) := by decide +kernel
theorem dX2_sumAhead_14 : decode cX2_sumAhead 14 = .ok (.iload_n 2, 1) := by decide +kernel
theorem dX2_sumAhead_15 : decode cX2_sumAhead 15 = .ok (.aload_n 0, 1) := by decide +kernel
theorem dX2_sumAhead_16 : decode cX2_sumAhead 16 = .ok (.getfield 9, 3) := by decide +kernel
theorem dX2_sumAhead_19 : decode cX2_sumAhead 19 = .ok (.iload_n 3, 1) := by decide +kernel
theorem dX2_sumAhead_20 : decode cX2_sumAhead 20 = .ok (.iaload, 1) := by decide +kernel
theorem dX2_sumAhead_21 : decode cX2_sumAhead 21 = .ok (.iadd, 1) := by decide +kernel
theorem dX2_sumAhead_22 : decode cX2_sumAhead 22 = .ok (.istore_n 2, 1) := by decide +kernel
theorem dX2_sumAhead_23 : decode cX2_sumAhead 23 = .ok (.iinc 3 1, 3) := by decide +kernel
theorem dX2_sumAhead_26 : decode cX2_sumAhead 26 = .ok (.goto (-22), 3) := by decide +kernel
theorem dX2_sumAhead_29 : decode cX2_sumAhead 29 = .ok (.iload_n 2, 1) := by decide +kernel
theorem dX2_sumAhead_30 : decode cX2_sumAhead 30 = .ok (.ireturn, 1) := by decide +kernel
theorem dX2_figures_0 : decode cX2_figures 0 = .ok (.iconst 0, 1) := by decide +kernel
theorem dX2_figures_1 : decode cX2_figures 1 = .ok (.istore_n 1, 1) := by decide +kernel
theorem dX2_figures_2 : decode cX2_figures 2 = .ok (.iconst 0, 1) := by decide +kernel
theorem dX2_figures_3 : decode cX2_figures 3 = .ok (.istore_n 2, 1) := by decide +kernel
theorem dX2_figures_4 : decode cX2_figures 4 = .ok (.iload_n 2, 1) := by decide +kernel
theorem dX2_figures_5 : decode cX2_figures 5 = .ok (.iconst 5, 1) := by decide +kernel
theorem dX2_figures_6 : decode cX2_figures 6 = .ok (.if_icmp .ge 32, 3) := by decide +kernel
theorem dX2_figures_9 : decode cX2_figures 9 = .ok (.aload_n 0, 1) := by decide +kernel
theorem dX2_figures_10 : decode cX2_figures 10 = .ok (.getfield 15, 3) := by decide +kernel
theorem dX2_figures_13 : decode cX2_figures 13 = .ok (.iload_n 2, 1) := by decide +kernel
theorem dX2_figures_14 : decode cX2_figures 14 = .ok (.invokevirtual 44, 3) := by decide +kernel
theorem dX2_figures_17 : decode cX2_figures 17 = .ok (.ifCond .eq 21, 3) := by decide +kernel
theorem dX2_figures_20 : decode cX2_figures 20 = .ok (.bipush 10, 2) := by decide +kernel
theorem dX2_figures_22 : decode cX2_figures 22 = .ok (.iload_n 1, 1) := by decide +kernel
theorem dX2_figures_23 : decode cX2_figures 23 = .ok (.imul, 1) := by decide +kernel
theorem dX2_figures_24 : decode cX2_figures 24 = .ok (.aload_n 0, 1) := by decide +kernel
theorem dX2_figures_25 : decode cX2_figures 25 = .ok (.getfield 9, 3) := by decide +kernel
theorem dX2_figures_28 : decode cX2_figures 28 = .ok (.iload_n 2, 1) := by decide +kernel
theorem dX2_figures_29 : decode cX2_figures 29 = .ok (.iaload, 1) := by decide +kernel
theorem dX2_figures_30 : decode cX2_figures 30 = .ok (.iadd, 1) := by decide +kernel
theorem dX2_figures_31 : decode cX2_figures 31 = .ok (.istore_n 1, 1) := by decide +kernel
theorem dX2_figures_32 : decode cX2_figures 32 = .ok (.iinc 2 1, 3) := by decide +kernel
theorem dX2_figures_35 : decode cX2_figures 35 = .ok (.goto (-31), 3) := by decide +kernel
theorem dX2_figures_38 : decode cX2_figures 38 = .ok (.iload_n 1, 1) := by decide +kernel
theorem dX2_figures_39 : decode cX2_figures 39 = .ok (.ireturn, 1) := by decide +kernel
theorem dX2_stepsFrom_0 : decode cX2_stepsFrom 0 = .ok (.iconst 0, 1) := by decide +kernel
theorem dX2_stepsFrom_1 : decode cX2_stepsFrom 1 = .ok (.istore_n 2, 1) := by decide +kernel
theorem dX2_stepsFrom_2 : decode cX2_stepsFrom 2 = .ok (.iconst 0, 1) := by decide +kernel
theorem dX2_stepsFrom_3 : decode cX2_stepsFrom 3 = .ok (.istore_n 3, 1) := by decide +kernel
theorem dX2_stepsFrom_4 : decode cX2_stepsFrom 4 = .ok (.iload_n 3, 1) := by decide +kernel
theorem dX2_stepsFrom_5 : decode cX2_stepsFrom 5 = .ok (.iconst 5, 1) := by decide +kernel
theorem dX2_stepsFrom_6 : decode cX2_stepsFrom 6 = .ok (.if_icmp .ge 28, 3) := by decide +kernel
theorem dX2_stepsFrom_9 : decode cX2_stepsFrom 9 = .ok (.iload_n 2, 1) := by decide +kernel
theorem dX2_stepsFrom_10 : decode cX2_stepsFrom 10 = .ok (.aload_n 0, 1) := by decide +kernel
theorem dX2_stepsFrom_11 : decode cX2_stepsFrom 11 = .ok (.getfield 9, 3) := by decide +kernel
theorem dX2_stepsFrom_14 : decode cX2_stepsFrom 14 = .ok (.iload_n 3, 1) := by decide +kernel
theorem dX2_stepsFrom_15 : decode cX2_stepsFrom 15 = .ok (.iaload, 1) := by decide +kernel
theorem dX2_stepsFrom_16 : decode cX2_stepsFrom 16 = .ok (.aload_n 1, 1) := by decide +kernel
theorem dX2_stepsFrom_17 : decode cX2_stepsFrom 17 = .ok (.getfield 9, 3) := by decide +kernel
theorem dX2_stepsFrom_20 : decode cX2_stepsFrom 20 = .ok (.iload_n 3, 1) := by decide +kernel
theorem dX2_stepsFrom_21 : decode cX2_stepsFrom 21 = .ok (.iaload, 1) := by decide +kernel
theorem dX2_stepsFrom_22 : decode cX2_stepsFrom 22 = .ok (.isub, 1) := by decide +kernel
theorem dX2_stepsFrom_23 : decode cX2_stepsFrom 23 = .ok (.invokestatic 47, 3) := by decide +kernel
theorem dX2_stepsFrom_26 : decode cX2_stepsFrom 26 = .ok (.iadd, 1) := by decide +kernel
theorem dX2_stepsFrom_27 : decode cX2_stepsFrom 27 = .ok (.istore_n 2, 1) := by decide +kernel
theorem dX2_stepsFrom_28 : decode cX2_stepsFrom 28 = .ok (.iinc 3 1, 3) := by decide +kernel
theorem dX2_stepsFrom_31 : decode cX2_stepsFrom 31 = .ok (.goto (-27), 3) := by decide +kernel
theorem dX2_stepsFrom_34 : decode cX2_stepsFrom 34 = .ok (.iload_n 2, 1) := by decide +kernel
theorem dX2_stepsFrom_35 : decode cX2_stepsFrom 35 = .ok (.ireturn, 1) := by decide +kernel
theorem dX2_copyFrom_0 : decode cX2_copyFrom 0 = .ok (.aload_n 1, 1) := by decide +kernel
theorem dX2_copyFrom_1 : decode cX2_copyFrom 1 = .ok (.getfield 9, 3) := by decide +kernel
theorem dX2_copyFrom_4 : decode cX2_copyFrom 4 = .ok (.iconst 0, 1) := by decide +kernel
theorem dX2_copyFrom_5 : decode cX2_copyFrom 5 = .ok (.aload_n 0, 1) := by decide +kernel
theorem dX2_copyFrom_6 : decode cX2_copyFrom 6 = .ok (.getfield 9, 3) := by decide +kernel
theorem dX2_copyFrom_9 : decode cX2_copyFrom 9 = .ok (.iconst 0, 1) := by decide +kernel
theorem dX2_copyFrom_10 : decode cX2_copyFrom 10 = .ok (.iconst 5, 1) := by decide +kernel
theorem dX2_copyFrom_11 : decode cX2_copyFrom 11 = .ok (.invokestatic 52, 3) := by decide +kernel
theorem dX2_copyFrom_14 : decode cX2_copyFrom 14 = .ok (.return_, 1) := by decide +kernel
theorem dX2_copyTo_0 : decode cX2_copyTo 0 = .ok (.aload_n 0, 1) := by decide +kernel
theorem dX2_copyTo_1 : decode cX2_copyTo 1 = .ok (.getfield 9, 3) := by decide +kernel
theorem dX2_copyTo_4 : decode cX2_copyTo 4 = .ok (.iconst 0, 1) := by decide +kernel
theorem dX2_copyTo_5 : decode cX2_copyTo 5 = .ok (.aload_n 1, 1) := by decide +kernel
theorem dX2_copyTo_6 : decode cX2_copyTo 6 = .ok (.iconst 0, 1) := by decide +kernel
theorem dX2_copyTo_7 : decode cX2_copyTo 7 = .ok (.iconst 5, 1) := by decide +kernel
theorem dX2_copyTo_8 : decode cX2_copyTo 8 = .ok (.invokestatic 52, 3) := by decide +kernel
theorem dX2_copyTo_11 : decode cX2_copyTo 11 = .ok (.return_, 1) := by decide +kernel
theorem dX2_copyBack_0 : decode cX2_copyBack 0 = .ok (.aload_n 1, 1) := by decide +kernel
theorem dX2_copyBack_1 : decode cX2_copyBack 1 = .ok (.iconst 0, 1) := by decide +kernel
theorem dX2_copyBack_2 : decode cX2_copyBack 2 = .ok (.aload_n 0, 1) := by decide +kernel
theorem dX2_copyBack_3 : decode cX2_copyBack 3 = .ok (.getfield 9, 3) := by decide +kernel
theorem dX2_copyBack_6 : decode cX2_copyBack 6 = .ok (.iconst 0, 1) := by decide +kernel
theorem dX2_copyBack_7 : decode cX2_copyBack 7 = .ok (.iconst 5, 1) := by decide +kernel
theorem dX2_copyBack_8 : decode cX2_copyBack 8 = .ok (.invokestatic 52, 3) := by decide +kernel
theorem dX2_copyBack_11 : decode cX2_copyBack 11 = .ok (.return_, 1) := by decide +kernel
theorem dX3_init_0 : decode cX3_init 0 = .ok (.aload_n 0, 1) := by decide +kernel
theorem dX3_init_1 : decode cX3_init 1 = .ok (.invokespecial 3, 3) := by decide +kernel
theorem dX3_init_4 : decode cX3_init 4 = .ok (.aload_n 0, 1) := by decide +kernel
theorem dX3_init_5 : decode cX3_init 5 = .ok (.bipush 64, 2) := by decide +kernel
theorem dX3_init_7 : decode cX3_init 7 = .ok (.newarray .int, 2) := by decide +kernel
theorem dX3_init_9 : decode cX3_init 9 = .ok (.putfield 9, 3) := by decide +kernel
theorem dX3_init_12 : decode cX3_init 12 = .ok (.return_, 1) := by decide +kernel
theorem dX3_length_0 : decode cX3_length 0 = .ok (.aload_n 0, 1) := by decide +kernel
theorem dX3_length_1 : decode cX3_length 1 = .ok (.getfield 15, 3) := by decide +kernel
theorem dX3_length_4 : decode cX3_length 4 = .ok (.ireturn, 1) := by decide +kernel
theorem dX3_at_0 : decode cX3_at 0 = .ok (.iload_n 1, 1) := by decide +kernel
theorem dX3_at_1 : decode cX3_at 1 = .ok (.ifCond .lt 20, 3) := by decide +kernel
theorem dX3_at_4 : decode cX3_at 4 = .ok (.iload_n 1, 1) := by decide +kernel
theorem dX3_at_5 : decode cX3_at 5 = .ok (.aload_n 0, 1) := by decide +kernel
theorem dX3_at_6 : decode cX3_at 6 = .ok (.getfield 15, 3) := by decide +kernel
theorem dX3_at_9 : decode cX3_at 9 = .ok (.if_icmp .ge 12, 3) := by decide +kernel
theorem dX3_at_12 : decode cX3_at 12 = .ok (.aload_n 0, 1) := by decide +kernel
theorem dX3_at_13 : decode cX3_at 13 = .ok (.getfield 9, 3) := by decide +kernel
theorem dX3_at_16 : decode cX3_at 16 = .ok (.iload_n 1, 1) := by decide +kernel
theorem dX3_at_17 : decode cX3_at 17 = .ok (.iaload, 1) := by decide +kernel
theorem dX3_at_18 : decode cX3_at 18 = .ok (.goto 5, 3) := by decide +kernel
theorem dX3_at_21 : decode cX3_at 21 = .ok (.bipush (-9), 2) := by decide +kernel
theorem dX3_at_23 : decode cX3_at 23 = .ok (.ireturn, 1) := by decide +kernel
theorem dX3_append_0 : decode cX3_append 0 = .ok (.aload_n 0, 1) := by decide +kernel
theorem dX3_append_1 : decode cX3_append 1 = .ok (.getfield 15, 3) := by decide +kernel
theorem dX3_append_4 : decode cX3_append 4 = .ok (.bipush 64, 2) := by decide +kernel
theorem dX3_append_6 : decode cX3_append 6 = .ok (.if_icmp .lt 5, 3) := by decide +kernel
theorem dX3_append_9 : decode cX3_append 9 = .ok (.iconst 0, 1) := by decide +kernel
theorem dX3_append_10 : decode cX3_append 10 = .ok (.ireturn, 1) := by decide +kernel
theorem dX3_append_11 : decode cX3_append 11 = .ok (.aload_n 0, 1) := by decide +kernel
theorem dX3_append_12 : decode cX3_append 12 = .ok (.getfield 9, 3) := by decide +kernel
theorem dX3_append_15 : decode cX3_append 15 = .ok (.aload_n 0, 1) := by decide +kernel
theorem dX3_append_16 : decode cX3_append 16 = .ok (.getfield 15, 3) := by decide +kernel
theorem dX3_append_19 : decode cX3_append 19 = .ok (.iload_n 1, 1) := by decide +kernel
theorem dX3_append_20 : decode cX3_append 20 = .ok (.iastore, 1) := by decide +kernel
theorem dX3_append_21 : decode cX3_append 21 = .ok (.aload_n 0, 1) := by decide +kernel
theorem dX3_append_22 : decode cX3_append 22 = .ok (.dup, 1) := by decide +kernel
theorem dX3_append_23 : decode cX3_append 23 = .ok (.getfield 15, 3) := by decide +kernel
theorem dX3_append_26 : decode cX3_append 26 = .ok (.iconst 1, 1) := by decide +kernel
theorem dX3_append_27 : decode cX3_append 27 = .ok (.iadd, 1) := by decide +kernel
theorem dX3_append_28 : decode cX3_append 28 = .ok (.putfield 15, 3) := by decide +kernel
theorem dX3_append_31 : decode cX3_append 31 = .ok (.iconst 1, 1) := by decide +kernel
theorem dX3_append_32 : decode cX3_append 32 = .ok (.ireturn, 1) := by decide +kernel
theorem dX3_clear_0 : decode cX3_clear 0 = .ok (.aload_n 0, 1) := by decide +kernel
theorem dX3_clear_1 : decode cX3_clear 1 = .ok (.iconst 0, 1) := by decide +kernel
theorem dX3_clear_2 : decode cX3_clear 2 = .ok (.putfield 15, 3) := by decide +kernel
theorem dX3_clear_5 : decode cX3_clear 5 = .ok (.return_, 1) := by decide +kernel
theorem dX3_firstFault_0 : decode cX3_firstFault 0 = .ok (.iconst 0, 1) := by decide +kernel
theorem dX3_firstFault_1 : decode cX3_firstFault 1 = .ok (.istore_n 1, 1) := by decide +kernel
theorem dX3_firstFault_2 : decode cX3_firstFault 2 = .ok (.iload_n 1, 1) := by decide +kernel
theorem dX3_firstFault_3 : decode cX3_firstFault 3 = .ok (.aload_n 0, 1) := by decide +kernel
theorem dX3_firstFault_4 : decode cX3_firstFault 4 = .ok (.getfield 15, 3) := by decide +kernel
theorem dX3_firstFault_7 : decode cX3_firstFault 7 = .ok (.if_icmp .ge 24, 3) := by decide +kernel
theorem dX3_firstFault_10 : decode cX3_firstFault 10 = .ok (.aload_n 0, 1) := by decide +kernel
theorem dX3_firstFault_11 : decode cX3_firstFault 11 = .ok (.getfield 9, 3) := by decide +kernel
theorem dX3_firstFault_14 : decode cX3_firstFault 14 = .ok (.iload_n 1, 1) := by decide +kernel
theorem dX3_firstFault_15 : decode cX3_firstFault 15 = .ok (.iaload, 1) := by decide +kernel
theorem dX3_firstFault_16 : decode cX3_firstFault 16 = .ok (.iload_n 1, 1) := by decide +kernel
theorem dX3_firstFault_17 : decode cX3_firstFault 17 = .ok (.invokestatic 19, 3) := by decide +kernel
theorem dX3_firstFault_20 : decode cX3_firstFault 20 = .ok (.ifCond .ne 5, 3) := by decide +kernel
theorem dX3_firstFault_23 : decode cX3_firstFault 23 = .ok (.iload_n 1, 1) := by decide +kernel
theorem dX3_firstFault_24 : decode cX3_firstFault 24 = .ok (.ireturn, 1) := by decide +kernel
theorem dX3_firstFault_25 : decode cX3_firstFault 25 = .ok (.iinc 1 1, 3) := by decide +kernel
theorem dX3_firstFault_28 : decode cX3_firstFault 28 = .ok (.goto (-26), 3) := by decide +kernel
theorem dX3_firstFault_31 : decode cX3_firstFault 31 = .ok (.aload_n 0, 1) := by decide +kernel
theorem dX3_firstFault_32 : decode cX3_firstFault 32 = .ok (.getfield 15, 3) := by decide +kernel
theorem dX3_firstFault_35 : decode cX3_firstFault 35 = .ok (.bipush 10, 2) := by decide +kernel
theorem dX3_firstFault_37 : decode cX3_firstFault 37 = .ok (.irem, 1) := by decide +kernel
theorem dX3_firstFault_38 : decode cX3_firstFault 38 = .ok (.iconst 1, 1) := by decide +kernel
theorem dX3_firstFault_39 : decode cX3_firstFault 39 = .ok (.if_icmp .ne 8, 3) := by decide +kernel
theorem dX3_firstFault_42 : decode cX3_firstFault 42 = .ok (.bipush (-9), 2) := by decide +kernel
theorem dX3_firstFault_44 : decode cX3_firstFault 44 = .ok (.goto 7, 3) := by decide +kernel
theorem dX3_firstFault_47 : decode cX3_firstFault 47 = .ok (.aload_n 0, 1) := by decide +kernel
theorem dX3_firstFault_48 : decode cX3_firstFault 48 = .ok (.getfield 15, 3) := by decide +kernel
theorem dX3_firstFault_51 : decode cX3_firstFault 51 = .ok (.ireturn, 1) := by decide +kernel
theorem dX3_canStand_0 : decode cX3_canStand 0 = .ok (.iload_n 1, 1) := by decide +kernel
theorem dX3_canStand_1 : decode cX3_canStand 1 = .ok (.ifCond .ne 15, 3) := by decide +kernel
theorem dX3_canStand_4 : decode cX3_canStand 4 = .ok (.iload_n 0, 1) := by decide +kernel
theorem dX3_canStand_5 : decode cX3_canStand 5 = .ok (.bipush 70, 2) := by decide +kernel
theorem dX3_canStand_7 : decode cX3_canStand 7 = .ok (.if_icmp .ne 7, 3) := by decide +kernel
theorem dX3_canStand_10 : decode cX3_canStand 10 = .ok (.iconst 1, 1) := by decide +kernel
theorem dX3_canStand_11 : decode cX3_canStand 11 = .ok (.goto 4, 3) := by decide +kernel
theorem dX3_canStand_14 : decode cX3_canStand 14 = .ok (.iconst 0, 1) := by decide +kernel
theorem dX3_canStand_15 : decode cX3_canStand 15 = .ok (.ireturn, 1) := by decide +kernel
theorem dX3_canStand_16 : decode cX3_canStand 16 = .ok (.iload_n 1, 1) := by decide +kernel
theorem dX3_canStand_17 : decode cX3_canStand 17 = .ok (.bipush 60, 2) := by decide +kernel
theorem dX3_canStand_19 : decode cX3_canStand 19 = .ok (.if_icmp .le 5, 3) := by decide +kernel
theorem dX3_canStand_22 : decode cX3_canStand 22 = .ok (.iconst 0, 1) := by decide +kernel
theorem dX3_canStand_23 : decode cX3_canStand 23 = .ok (.ireturn, 1) := by decide +kernel
theorem dX3_canStand_24 : decode cX3_canStand 24 = .ok (.iload_n 1, 1) := by decide +kernel
theorem dX3_canStand_25 : decode cX3_canStand 25 = .ok (.iconst 1, 1) := by decide +kernel
theorem dX3_canStand_26 : decode cX3_canStand 26 = .ok (.isub, 1) := by decide +kernel
theorem dX3_canStand_27 : decode cX3_canStand 27 = .ok (.bipush 10, 2) := by decide +kernel
theorem dX3_canStand_29 : decode cX3_canStand 29 = .ok (.irem, 1) := by decide +kernel
theorem dX3_canStand_30 : decode cX3_canStand 30 = .ok (.lookupswitch 56 #[(0, 26), (1, 38)], 26) := by decide +kernel
theorem dX3_canStand_56 : decode cX3_canStand 56 = .ok (.iload_n 0, 1) := by decide +kernel
theorem dX3_canStand_57 : decode cX3_canStand 57 = .ok (.bipush 66, 2) := by decide +kernel
theorem dX3_canStand_59 : decode cX3_canStand 59 = .ok (.if_icmp .ne 7, 3) := by decide +kernel
theorem dX3_canStand_62 : decode cX3_canStand 62 = .ok (.iconst 1, 1) := by decide +kernel
theorem dX3_canStand_63 : decode cX3_canStand 63 = .ok (.goto 4, 3) := by decide +kernel
theorem dX3_canStand_66 : decode cX3_canStand 66 = .ok (.iconst 0, 1) := by decide +kernel
theorem dX3_canStand_67 : decode cX3_canStand 67 = .ok (.ireturn, 1) := by decide +kernel
theorem dX3_canStand_68 : decode cX3_canStand 68 = .ok (.iload_n 0, 1) := by decide +kernel
theorem dX3_canStand_69 : decode cX3_canStand 69 = .ok (.bipush 48, 2) := by decide +kernel
theorem dX3_canStand_71 : decode cX3_canStand 71 = .ok (.if_icmp .lt 13, 3) := by decide +kernel
theorem dX3_canStand_74 : decode cX3_canStand 74 = .ok (.iload_n 0, 1) := by decide +kernel
theorem dX3_canStand_75 : decode cX3_canStand 75 = .ok (.bipush 51, 2) := by decide +kernel
theorem dX3_canStand_77 : decode cX3_canStand 77 = .ok (.if_icmp .gt 7, 3) := by decide +kernel
theorem dX3_canStand_80 : decode cX3_canStand 80 = .ok (.iconst 1, 1) := by decide +kernel
theorem dX3_canStand_81 : decode cX3_canStand 81 = .ok (.goto 4, 3) := by decide +kernel
theorem dX3_canStand_84 : decode cX3_canStand 84 = .ok (.iconst 0, 1) := by decide +kernel
theorem dX3_canStand_85 : decode cX3_canStand 85 = .ok (.ireturn, 1) := by decide +kernel
theorem dX3_canStand_86 : decode cX3_canStand 86 = .ok (.iload_n 0, 1) := by decide +kernel
theorem dX3_canStand_87 : decode cX3_canStand 87 = .ok (.invokestatic 23, 3) := by decide +kernel
theorem dX3_canStand_90 : decode cX3_canStand 90 = .ok (.ireturn, 1) := by decide +kernel
theorem dX4_init_0 : decode cX4_init 0 = .ok (.aload_n 0, 1) := by decide +kernel
theorem dX4_init_1 : decode cX4_init 1 = .ok (.invokespecial 3, 3) := by decide +kernel
theorem dX4_init_4 : decode cX4_init 4 = .ok (.aload_n 0, 1) := by decide +kernel
theorem dX4_init_5 : decode cX4_init 5 = .ok (.iconst 2, 1) := by decide +kernel
theorem dX4_init_6 : decode cX4_init 6 = .ok (.iconst 5, 1) := by decide +kernel
theorem dX4_init_7 : decode cX4_init 7 = .ok (.multianewarray 9 2, 4) := by decide +kernel
theorem dX4_init_11 : decode cX4_init 11 = .ok (.putfield 11, 3) := by decide +kernel
theorem dX4_init_14 : decode cX4_init 14 = .ok (.aload_n 0, 1) := by decide +kernel
theorem dX4_init_15 : decode cX4_init 15 = .ok (.iconst 2, 1) := by decide +kernel
theorem dX4_init_16 : decode cX4_init 16 = .ok (.newarray .boolean, 2) := by decide +kernel
theorem dX4_init_18 : decode cX4_init 18 = .ok (.putfield 16, 3) := by decide +kernel
theorem dX4_init_21 : decode cX4_init 21 = .ok (.return_, 1) := by decide +kernel
theorem dX4_has_0 : decode cX4_has 0 = .ok (.iload_n 1, 1) := by decide +kernel
theorem dX4_has_1 : decode cX4_has 1 = .ok (.ifCond .lt 12, 3) := by decide +kernel
theorem dX4_has_4 : decode cX4_has 4 = .ok (.iload_n 1, 1) := by decide +kernel
theorem dX4_has_5 : decode cX4_has 5 = .ok (.iconst 2, 1) := by decide +kernel
theorem dX4_has_6 : decode cX4_has 6 = .ok (.if_icmp .ge 7, 3) := by decide +kernel
theorem dX4_has_9 : decode cX4_has 9 = .ok (.iconst 1, 1) := by decide +kernel
theorem dX4_has_10 : decode cX4_has 10 = .ok (.goto 4, 3) := by decide +kernel
theorem dX4_has_13 : decode cX4_has 13 = .ok (.iconst 0, 1) := by decide +kernel
theorem dX4_has_14 : decode cX4_has 14 = .ok (.ireturn, 1) := by decide +kernel
theorem dX4_clear_0 : decode cX4_clear 0 = .ok (.iconst 0, 1) := by decide +kernel
theorem dX4_clear_1 : decode cX4_clear 1 = .ok (.istore_n 1, 1) := by decide +kernel
theorem dX4_clear_2 : decode cX4_clear 2 = .ok (.iload_n 1, 1) := by decide +kernel
theorem dX4_clear_3 : decode cX4_clear 3 = .ok (.iconst 2, 1) := by decide +kernel
theorem dX4_clear_4 : decode cX4_clear 4 = .ok (.if_icmp .ge 16, 3) := by decide +kernel
theorem dX4_clear_7 : decode cX4_clear 7 = .ok (.aload_n 0, 1) := by decide +kernel
theorem dX4_clear_8 : decode cX4_clear 8 = .ok (.getfield 16, 3) := by decide +kernel
theorem dX4_clear_11 : decode cX4_clear 11 = .ok (.iload_n 1, 1) := by decide +kernel
theorem dX4_clear_12 : decode cX4_clear 12 = .ok (.iconst 0, 1) := by decide +kernel
theorem dX4_clear_13 : decode cX4_clear 13 = .ok (.bastore, 1) := by decide +kernel
theorem dX4_clear_14 : decode cX4_clear 14 = .ok (.iinc 1 1, 3) := by decide +kernel
theorem dX4_clear_17 : decode cX4_clear 17 = .ok (.goto (-15), 3) := by decide +kernel
theorem dX4_clear_20 : decode cX4_clear 20 = .ok (.return_, 1) := by decide +kernel
theorem dX4_store_0 : decode cX4_store 0 = .ok (.aload_n 0, 1) := by decide +kernel
theorem dX4_store_1 : decode cX4_store 1 = .ok (.iload_n 1, 1) := by decide +kernel
theorem dX4_store_2 : decode cX4_store 2 = .ok (.invokevirtual 20, 3) := by decide +kernel
theorem dX4_store_5 : decode cX4_store 5 = .ok (.ifCond .ne 5, 3) := by decide +kernel
theorem dX4_store_8 : decode cX4_store 8 = .ok (.iconst 0, 1) := by decide +kernel
theorem dX4_store_9 : decode cX4_store 9 = .ok (.ireturn, 1) := by decide +kernel
theorem dX4_store_10 : decode cX4_store 10 = .ok (.aload_n 2, 1) := by decide +kernel
theorem dX4_store_11 : decode cX4_store 11 = .ok (.aload_n 0, 1) := by decide +kernel
theorem dX4_store_12 : decode cX4_store 12 = .ok (.getfield 11, 3) := by decide +kernel
theorem dX4_store_15 : decode cX4_store 15 = .ok (.iload_n 1, 1) := by decide +kernel
theorem dX4_store_16 : decode cX4_store 16 = .ok (.aaload, 1) := by decide +kernel
theorem dX4_store_17 : decode cX4_store 17 = .ok (.invokevirtual 24, 3) := by decide +kernel
theorem dX4_store_20 : decode cX4_store 20 = .ok (.aload_n 0, 1) := by decide +kernel
theorem dX4_store_21 : decode cX4_store 21 = .ok (.getfield 16, 3) := by decide +kernel
theorem dX4_store_24 : decode cX4_store 24 = .ok (.iload_n 1, 1) := by decide +kernel
theorem dX4_store_25 : decode cX4_store 25 = .ok (.iconst 1, 1) := by decide +kernel
theorem dX4_store_26 : decode cX4_store 26 = .ok (.bastore, 1) := by decide +kernel
theorem dX4_store_27 : decode cX4_store 27 = .ok (.iconst 1, 1) := by decide +kernel
theorem dX4_store_28 : decode cX4_store 28 = .ok (.ireturn, 1) := by decide +kernel
theorem dX4_restore_0 : decode cX4_restore 0 = .ok (.aload_n 0, 1) := by decide +kernel
theorem dX4_restore_1 : decode cX4_restore 1 = .ok (.iload_n 1, 1) := by decide +kernel
theorem dX4_restore_2 : decode cX4_restore 2 = .ok (.invokevirtual 20, 3) := by decide +kernel
theorem dX4_restore_5 : decode cX4_restore 5 = .ok (.ifCond .eq 12, 3) := by decide +kernel
theorem dX4_restore_8 : decode cX4_restore 8 = .ok (.aload_n 0, 1) := by decide +kernel
theorem dX4_restore_9 : decode cX4_restore 9 = .ok (.getfield 16, 3) := by decide +kernel
theorem dX4_restore_12 : decode cX4_restore 12 = .ok (.iload_n 1, 1) := by decide +kernel
theorem dX4_restore_13 : decode cX4_restore 13 = .ok (.baload, 1) := by decide +kernel
theorem dX4_restore_14 : decode cX4_restore 14 = .ok (.ifCond .ne 5, 3) := by decide +kernel
theorem dX4_restore_17 : decode cX4_restore 17 = .ok (.iconst 0, 1) := by decide +kernel
theorem dX4_restore_18 : decode cX4_restore 18 = .ok (.ireturn, 1) := by decide +kernel
theorem dX4_restore_19 : decode cX4_restore 19 = .ok (.aload_n 2, 1) := by decide +kernel
theorem dX4_restore_20 : decode cX4_restore 20 = .ok (.aload_n 0, 1) := by decide +kernel
theorem dX4_restore_21 : decode cX4_restore 21 = .ok (.getfield 11, 3) := by decide +kernel
theorem dX4_restore_24 : decode cX4_restore 24 = .ok (.iload_n 1, 1) := by decide +kernel
theorem dX4_restore_25 : decode cX4_restore 25 = .ok (.aaload, 1) := by decide +kernel
theorem dX4_restore_26 : decode cX4_restore 26 = .ok (.invokevirtual 30, 3) := by decide +kernel
theorem dX4_restore_29 : decode cX4_restore 29 = .ok (.iconst 1, 1) := by decide +kernel
theorem dX4_restore_30 : decode cX4_restore 30 = .ok (.ireturn, 1) := by decide +kernel
theorem dX5_init_0 : decode cX5_init 0 = .ok (.aload_n 0, 1) := by decide +kernel
theorem dX5_init_1 : decode cX5_init 1 = .ok (.invokespecial 3, 3) := by decide +kernel
theorem dX5_init_4 : decode cX5_init 4 = .ok (.aload_n 0, 1) := by decide +kernel
theorem dX5_init_5 : decode cX5_init 5 = .ok (.bipush 6, 2) := by decide +kernel
theorem dX5_init_7 : decode cX5_init 7 = .ok (.newarray .int, 2) := by decide +kernel
theorem dX5_init_9 : decode cX5_init 9 = .ok (.putfield 9, 3) := by decide +kernel
theorem dX5_init_12 : decode cX5_init 12 = .ok (.aload_n 0, 1) := by decide +kernel
theorem dX5_init_13 : decode cX5_init 13 = .ok (.bipush 6, 2) := by decide +kernel
theorem dX5_init_15 : decode cX5_init 15 = .ok (.newarray .int, 2) := by decide +kernel
theorem dX5_init_17 : decode cX5_init 17 = .ok (.putfield 15, 3) := by decide +kernel
theorem dX5_init_20 : decode cX5_init 20 = .ok (.aload_n 0, 1) := by decide +kernel
theorem dX5_init_21 : decode cX5_init 21 = .ok (.bipush 6, 2) := by decide +kernel
theorem dX5_init_23 : decode cX5_init 23 = .ok (.newarray .boolean, 2) := by decide +kernel
theorem dX5_init_25 : decode cX5_init 25 = .ok (.putfield 18, 3) := by decide +kernel
theorem dX5_init_28 : decode cX5_init 28 = .ok (.return_, 1) := by decide +kernel
theorem dX5_size_0 : decode cX5_size 0 = .ok (.aload_n 0, 1) := by decide +kernel
theorem dX5_size_1 : decode cX5_size 1 = .ok (.getfield 22, 3) := by decide +kernel
theorem dX5_size_4 : decode cX5_size 4 = .ok (.ireturn, 1) := by decide +kernel
theorem dX5_clear_0 : decode cX5_clear 0 = .ok (.aload_n 0, 1) := by decide +kernel
theorem dX5_clear_1 : decode cX5_clear 1 = .ok (.iconst 0, 1) := by decide +kernel
theorem dX5_clear_2 : decode cX5_clear 2 = .ok (.putfield 22, 3) := by decide +kernel
theorem dX5_clear_5 : decode cX5_clear 5 = .ok (.return_, 1) := by decide +kernel
theorem dX5_add_0 : decode cX5_add 0 = .ok (.aload_n 0, 1) := by decide +kernel
theorem dX5_add_1 : decode cX5_add 1 = .ok (.getfield 22, 3) := by decide +kernel
theorem dX5_add_4 : decode cX5_add 4 = .ok (.bipush 6, 2) := by decide +kernel
theorem dX5_add_6 : decode cX5_add 6 = .ok (.if_icmp .lt 5, 3) := by decide +kernel
theorem dX5_add_9 : decode cX5_add 9 = .ok (.iconst 0, 1) := by decide +kernel
theorem dX5_add_10 : decode cX5_add 10 = .ok (.ireturn, 1) := by decide +kernel
theorem dX5_add_11 : decode cX5_add 11 = .ok (.aload_n 0, 1) := by decide +kernel
theorem dX5_add_12 : decode cX5_add 12 = .ok (.getfield 9, 3) := by decide +kernel
theorem dX5_add_15 : decode cX5_add 15 = .ok (.aload_n 0, 1) := by decide +kernel
theorem dX5_add_16 : decode cX5_add 16 = .ok (.getfield 22, 3) := by decide +kernel
theorem dX5_add_19 : decode cX5_add 19 = .ok (.iload_n 1, 1) := by decide +kernel
theorem dX5_add_20 : decode cX5_add 20 = .ok (.iastore, 1) := by decide +kernel
theorem dX5_add_21 : decode cX5_add 21 = .ok (.aload_n 0, 1) := by decide +kernel
theorem dX5_add_22 : decode cX5_add 22 = .ok (.getfield 15, 3) := by decide +kernel
theorem dX5_add_25 : decode cX5_add 25 = .ok (.aload_n 0, 1) := by decide +kernel
theorem dX5_add_26 : decode cX5_add 26 = .ok (.getfield 22, 3) := by decide +kernel
theorem dX5_add_29 : decode cX5_add 29 = .ok (.iload_n 2, 1) := by decide +kernel
theorem dX5_add_30 : decode cX5_add 30 = .ok (.iastore, 1) := by decide +kernel
theorem dX5_add_31 : decode cX5_add 31 = .ok (.aload_n 0, 1) := by decide +kernel
theorem dX5_add_32 : decode cX5_add 32 = .ok (.getfield 18, 3) := by decide +kernel
theorem dX5_add_35 : decode cX5_add 35 = .ok (.aload_n 0, 1) := by decide +kernel
theorem dX5_add_36 : decode cX5_add 36 = .ok (.getfield 22, 3) := by decide +kernel
theorem dX5_add_39 : decode cX5_add 39 = .ok (.iload_n 3, 1) := by decide +kernel
theorem dX5_add_40 : decode cX5_add 40 = .ok (.bastore, 1) := by decide +kernel
theorem dX5_add_41 : decode cX5_add 41 = .ok (.aload_n 0, 1) := by decide +kernel
theorem dX5_add_42 : decode cX5_add 42 = .ok (.dup, 1) := by decide +kernel
theorem dX5_add_43 : decode cX5_add 43 = .ok (.getfield 22, 3) := by decide +kernel
theorem dX5_add_46 : decode cX5_add 46 = .ok (.iconst 1, 1) := by decide +kernel
theorem dX5_add_47 : decode cX5_add 47 = .ok (.iadd, 1) := by decide +kernel
theorem dX5_add_48 : decode cX5_add 48 = .ok (.putfield 22, 3) := by decide +kernel
theorem dX5_add_51 : decode cX5_add 51 = .ok (.iconst 1, 1) := by decide +kernel
theorem dX5_add_52 : decode cX5_add 52 = .ok (.ireturn, 1) := by decide +kernel
theorem dX5_fits_0 : decode cX5_fits 0 = .ok (.iconst 0, 1) := by decide +kernel
theorem dX5_fits_1 : decode cX5_fits 1 = .ok (.istore_n 2, 1) := by decide +kernel
theorem dX5_fits_2 : decode cX5_fits 2 = .ok (.iload_n 2, 1) := by decide +kernel
theorem dX5_fits_3 : decode cX5_fits 3 = .ok (.aload_n 0, 1) := by decide +kernel
theorem dX5_fits_4 : decode cX5_fits 4 = .ok (.getfield 22, 3) := by decide +kernel
theorem dX5_fits_7 : decode cX5_fits 7 = .ok (.if_icmp .ge 44, 3) := by decide +kernel
theorem dX5_fits_10 : decode cX5_fits 10 = .ok (.aload_n 1, 1) := by decide +kernel
theorem dX5_fits_11 : decode cX5_fits 11 = .ok (.aload_n 0, 1) := by decide +kernel
theorem dX5_fits_12 : decode cX5_fits 12 = .ok (.getfield 9, 3) := by decide +kernel
theorem dX5_fits_15 : decode cX5_fits 15 = .ok (.iload_n 2, 1) := by decide +kernel
theorem dX5_fits_16 : decode cX5_fits 16 = .ok (.iaload, 1) := by decide +kernel
theorem dX5_fits_17 : decode cX5_fits 17 = .ok (.invokevirtual 26, 3) := by decide +kernel
theorem dX5_fits_20 : decode cX5_fits 20 = .ok (.aload_n 0, 1) := by decide +kernel
theorem dX5_fits_21 : decode cX5_fits 21 = .ok (.getfield 15, 3) := by decide +kernel
theorem dX5_fits_24 : decode cX5_fits 24 = .ok (.iload_n 2, 1) := by decide +kernel
theorem dX5_fits_25 : decode cX5_fits 25 = .ok (.iaload, 1) := by decide +kernel
theorem dX5_fits_26 : decode cX5_fits 26 = .ok (.if_icmp .ne 7, 3) := by decide +kernel
theorem dX5_fits_29 : decode cX5_fits 29 = .ok (.iconst 1, 1) := by decide +kernel
theorem dX5_fits_30 : decode cX5_fits 30 = .ok (.goto 4, 3) := by decide +kernel
theorem dX5_fits_33 : decode cX5_fits 33 = .ok (.iconst 0, 1) := by decide +kernel
theorem dX5_fits_34 : decode cX5_fits 34 = .ok (.aload_n 0, 1) := by decide +kernel
theorem dX5_fits_35 : decode cX5_fits 35 = .ok (.getfield 18, 3) := by decide +kernel
theorem dX5_fits_38 : decode cX5_fits 38 = .ok (.iload_n 2, 1) := by decide +kernel
theorem dX5_fits_39 : decode cX5_fits 39 = .ok (.baload, 1) := by decide +kernel
theorem dX5_fits_40 : decode cX5_fits 40 = .ok (.if_icmp .eq 5, 3) := by decide +kernel
theorem dX5_fits_43 : decode cX5_fits 43 = .ok (.iconst 0, 1) := by decide +kernel
theorem dX5_fits_44 : decode cX5_fits 44 = .ok (.ireturn, 1) := by decide +kernel
theorem dX5_fits_45 : decode cX5_fits 45 = .ok (.iinc 2 1, 3) := by decide +kernel
theorem dX5_fits_48 : decode cX5_fits 48 = .ok (.goto (-46), 3) := by decide +kernel
theorem dX5_fits_51 : decode cX5_fits 51 = .ok (.iconst 1, 1) := by decide +kernel
theorem dX5_fits_52 : decode cX5_fits 52 = .ok (.ireturn, 1) := by decide +kernel
theorem dX6_init_0 : decode cX6_init 0 = .ok (.aload_n 0, 1) := by decide +kernel
theorem dX6_init_1 : decode cX6_init 1 = .ok (.invokespecial 3, 3) := by decide +kernel
theorem dX6_init_4 : decode cX6_init 4 = .ok (.aload_n 0, 1) := by decide +kernel
theorem dX6_init_5 : decode cX6_init 5 = .ok (.bipush 7, 2) := by decide +kernel
theorem dX6_init_7 : decode cX6_init 7 = .ok (.bipush 28, 2) := by decide +kernel
theorem dX6_init_9 : decode cX6_init 9 = .ok (.multianewarray 9 2, 4) := by decide +kernel
theorem dX6_init_13 : decode cX6_init 13 = .ok (.putfield 11, 3) := by decide +kernel
theorem dX6_init_16 : decode cX6_init 16 = .ok (.aload_n 0, 1) := by decide +kernel
theorem dX6_init_17 : decode cX6_init 17 = .ok (.bipush 6, 2) := by decide +kernel
theorem dX6_init_19 : decode cX6_init 19 = .ok (.newarray .int, 2) := by decide +kernel
theorem dX6_init_21 : decode cX6_init 21 = .ok (.putfield 16, 3) := by decide +kernel
theorem dX6_init_24 : decode cX6_init 24 = .ok (.aload_n 0, 1) := by decide +kernel
theorem dX6_init_25 : decode cX6_init 25 = .ok (.aload_n 1, 1) := by decide +kernel
theorem dX6_init_26 : decode cX6_init 26 = .ok (.putfield 20, 3) := by decide +kernel
theorem dX6_init_29 : decode cX6_init 29 = .ok (.aload_n 0, 1) := by decide +kernel
theorem dX6_init_30 : decode cX6_init 30 = .ok (.getfield 11, 3) := by decide +kernel
theorem dX6_init_33 : decode cX6_init 33 = .ok (.iconst 0, 1) := by decide +kernel
theorem dX6_init_34 : decode cX6_init 34 = .ok (.aaload, 1) := by decide +kernel
theorem dX6_init_35 : decode cX6_init 35 = .ok (.bipush (-9), 2) := by decide +kernel
theorem dX6_init_37 : decode cX6_init 37 = .ok (.invokestatic 24, 3) := by decide +kernel
theorem dX6_init_40 : decode cX6_init 40 = .ok (.return_, 1) := by decide +kernel
theorem dX6_side_0 : decode cX6_side 0 = .ok (.aload_n 0, 1) := by decide +kernel
theorem dX6_side_1 : decode cX6_side 1 = .ok (.getfield 30, 3) := by decide +kernel
theorem dX6_side_4 : decode cX6_side 4 = .ok (.ireturn, 1) := by decide +kernel
theorem dX6_layAll_0 : decode cX6_layAll 0 = .ok (.aload_n 0, 1) := by decide +kernel
theorem dX6_layAll_1 : decode cX6_layAll 1 = .ok (.iload_n 2, 1) := by decide +kernel
theorem dX6_layAll_2 : decode cX6_layAll 2 = .ok (.putfield 30, 3) := by decide +kernel
theorem dX6_layAll_5 : decode cX6_layAll 5 = .ok (.aload_n 0, 1) := by decide +kernel
theorem dX6_layAll_6 : decode cX6_layAll 6 = .ok (.iconst 0, 1) := by decide +kernel
theorem dX6_layAll_7 : decode cX6_layAll 7 = .ok (.aload_n 1, 1) := by decide +kernel
theorem dX6_layAll_8 : decode cX6_layAll 8 = .ok (.bipush 63, 2) := by decide +kernel
theorem dX6_layAll_10 : decode cX6_layAll 10 = .ok (.invokevirtual 34, 3) := by decide +kernel
theorem dX6_layAll_13 : decode cX6_layAll 13 = .ok (.return_, 1) := by decide +kernel
theorem dX6_layStaying_0 : decode cX6_layStaying 0 = .ok (.aload_n 0, 1) := by decide +kernel
theorem dX6_layStaying_1 : decode cX6_layStaying 1 = .ok (.iload_n 2, 1) := by decide +kernel
theorem dX6_layStaying_2 : decode cX6_layStaying 2 = .ok (.putfield 30, 3) := by decide +kernel
theorem dX6_layStaying_5 : decode cX6_layStaying 5 = .ok (.aload_n 0, 1) := by decide +kernel
theorem dX6_layStaying_6 : decode cX6_layStaying 6 = .ok (.iconst 0, 1) := by decide +kernel
theorem dX6_layStaying_7 : decode cX6_layStaying 7 = .ok (.aload_n 1, 1) := by decide +kernel
theorem dX6_layStaying_8 : decode cX6_layStaying 8 = .ok (.iload_n 3, 1) := by decide +kernel
theorem dX6_layStaying_9 : decode cX6_layStaying 9 = .ok (.invokevirtual 34, 3) := by decide +kernel
theorem dX6_layStaying_12 : decode cX6_layStaying 12 = .ok (.return_, 1) := by decide +kernel
theorem dX6_layFrom_0 : decode cX6_layFrom 0 = .ok (.aload_n 0, 1) := by decide +kernel
theorem dX6_layFrom_1 : decode cX6_layFrom 1 = .ok (.aload_n 0, 1) := by decide +kernel
theorem dX6_layFrom_2 : decode cX6_layFrom 2 = .ok (.getfield 20, 3) := by decide +kernel
theorem dX6_layFrom_5 : decode cX6_layFrom 5 = .ok (.invokevirtual 38, 3) := by decide +kernel
theorem dX6_layFrom_8 : decode cX6_layFrom 8 = .ok (.putfield 44, 3) := by decide +kernel
theorem dX6_layFrom_11 : decode cX6_layFrom 11 = .ok (.iconst 0, 1) := by decide +kernel
theorem dX6_layFrom_12 : decode cX6_layFrom 12 = .ok (.iload_n 1, 1) := by decide +kernel
theorem dX6_layFrom_13 : decode cX6_layFrom 13 = .ok (.invokestatic 47, 3) := by decide +kernel
theorem dX6_layFrom_16 : decode cX6_layFrom 16 = .ok (.istore 4, 2) := by decide +kernel
theorem dX6_layFrom_18 : decode cX6_layFrom 18 = .ok (.iload 4, 2) := by decide +kernel
theorem dX6_layFrom_20 : decode cX6_layFrom 20 = .ok (.aload_n 0, 1) := by decide +kernel
theorem dX6_layFrom_21 : decode cX6_layFrom 21 = .ok (.getfield 44, 3) := by decide +kernel
theorem dX6_layFrom_24 : decode cX6_layFrom 24 = .ok (.if_icmp .ge 98, 3) := by decide +kernel
theorem dX6_layFrom_27 : decode cX6_layFrom 27 = .ok (.iload 4, 2) := by decide +kernel
theorem dX6_layFrom_29 : decode cX6_layFrom 29 = .ok (.bipush 6, 2) := by decide +kernel
theorem dX6_layFrom_31 : decode cX6_layFrom 31 = .ok (.if_icmp .ge 91, 3) := by decide +kernel
theorem dX6_layFrom_34 : decode cX6_layFrom 34 = .ok (.aload_n 0, 1) := by decide +kernel
theorem dX6_layFrom_35 : decode cX6_layFrom 35 = .ok (.getfield 16, 3) := by decide +kernel
theorem dX6_layFrom_38 : decode cX6_layFrom 38 = .ok (.iload 4, 2) := by decide +kernel
theorem dX6_layFrom_40 : decode cX6_layFrom 40 = .ok (.iload 4, 2) := by decide +kernel
theorem dX6_layFrom_42 : decode cX6_layFrom 42 = .ok (.ifCond .ne 7, 3) := by decide +kernel
theorem dX6_layFrom_45 : decode cX6_layFrom 45 = .ok (.iconst 0, 1) := by decide +kernel
theorem dX6_layFrom_46 : decode cX6_layFrom 46 = .ok (.goto 21, 3) := by decide +kernel
theorem dX6_layFrom_49 : decode cX6_layFrom 49 = .ok (.aload_n 0, 1) := by decide +kernel
theorem dX6_layFrom_50 : decode cX6_layFrom 50 = .ok (.getfield 16, 3) := by decide +kernel
theorem dX6_layFrom_53 : decode cX6_layFrom 53 = .ok (.iload 4, 2) := by decide +kernel
theorem dX6_layFrom_55 : decode cX6_layFrom 55 = .ok (.iconst 1, 1) := by decide +kernel
theorem dX6_layFrom_56 : decode cX6_layFrom 56 = .ok (.isub, 1) := by decide +kernel
theorem dX6_layFrom_57 : decode cX6_layFrom 57 = .ok (.iaload, 1) := by decide +kernel
theorem dX6_layFrom_58 : decode cX6_layFrom 58 = .ok (.aload_n 2, 1) := by decide +kernel
theorem dX6_layFrom_59 : decode cX6_layFrom 59 = .ok (.iload 4, 2) := by decide +kernel
theorem dX6_layFrom_61 : decode cX6_layFrom 61 = .ok (.iconst 1, 1) := by decide +kernel
theorem dX6_layFrom_62 : decode cX6_layFrom 62 = .ok (.isub, 1) := by decide +kernel
theorem dX6_layFrom_63 : decode cX6_layFrom 63 = .ok (.invokevirtual 53, 3) := by decide +kernel
theorem dX6_layFrom_66 : decode cX6_layFrom 66 = .ok (.iadd, 1) := by decide +kernel
theorem dX6_layFrom_67 : decode cX6_layFrom 67 = .ok (.iastore, 1) := by decide +kernel
theorem dX6_layFrom_68 : decode cX6_layFrom 68 = .ok (.aload_n 0, 1) := by decide +kernel
theorem dX6_layFrom_69 : decode cX6_layFrom 69 = .ok (.getfield 11, 3) := by decide +kernel
theorem dX6_layFrom_72 : decode cX6_layFrom 72 = .ok (.iload 4, 2) := by decide +kernel
theorem dX6_layFrom_74 : decode cX6_layFrom 74 = .ok (.aaload, 1) := by decide +kernel
theorem dX6_layFrom_75 : decode cX6_layFrom 75 = .ok (.iconst 0, 1) := by decide +kernel
theorem dX6_layFrom_76 : decode cX6_layFrom 76 = .ok (.aload_n 0, 1) := by decide +kernel
theorem dX6_layFrom_77 : decode cX6_layFrom 77 = .ok (.getfield 11, 3) := by decide +kernel
theorem dX6_layFrom_80 : decode cX6_layFrom 80 = .ok (.iload 4, 2) := by decide +kernel
theorem dX6_layFrom_82 : decode cX6_layFrom 82 = .ok (.iconst 1, 1) := by decide +kernel
theorem dX6_layFrom_83 : decode cX6_layFrom 83 = .ok (.iadd, 1) := by decide +kernel
theorem dX6_layFrom_84 : decode cX6_layFrom 84 = .ok (.aaload, 1) := by decide +kernel
theorem dX6_layFrom_85 : decode cX6_layFrom 85 = .ok (.iconst 0, 1) := by decide +kernel
theorem dX6_layFrom_86 : decode cX6_layFrom 86 = .ok (.bipush 28, 2) := by decide +kernel
theorem dX6_layFrom_88 : decode cX6_layFrom 88 = .ok (.invokestatic 59, 3) := by decide +kernel
theorem dX6_layFrom_91 : decode cX6_layFrom 91 = .ok (.iload_n 3, 1) := by decide +kernel
theorem dX6_layFrom_92 : decode cX6_layFrom 92 = .ok (.iload 4, 2) := by decide +kernel
theorem dX6_layFrom_94 : decode cX6_layFrom 94 = .ok (.ishr, 1) := by decide +kernel
theorem dX6_layFrom_95 : decode cX6_layFrom 95 = .ok (.iconst 1, 1) := by decide +kernel
theorem dX6_layFrom_96 : decode cX6_layFrom 96 = .ok (.iand, 1) := by decide +kernel
theorem dX6_layFrom_97 : decode cX6_layFrom 97 = .ok (.iconst 1, 1) := by decide +kernel
theorem dX6_layFrom_98 : decode cX6_layFrom 98 = .ok (.if_icmp .ne 18, 3) := by decide +kernel
theorem dX6_layFrom_101 : decode cX6_layFrom 101 = .ok (.aload_n 0, 1) := by decide +kernel
theorem dX6_layFrom_102 : decode cX6_layFrom 102 = .ok (.iload 4, 2) := by decide +kernel
theorem dX6_layFrom_104 : decode cX6_layFrom 104 = .ok (.aload_n 0, 1) := by decide +kernel
theorem dX6_layFrom_105 : decode cX6_layFrom 105 = .ok (.getfield 11, 3) := by decide +kernel
theorem dX6_layFrom_108 : decode cX6_layFrom 108 = .ok (.iload 4, 2) := by decide +kernel
theorem dX6_layFrom_110 : decode cX6_layFrom 110 = .ok (.iconst 1, 1) := by decide +kernel
theorem dX6_layFrom_111 : decode cX6_layFrom 111 = .ok (.iadd, 1) := by decide +kernel
theorem dX6_layFrom_112 : decode cX6_layFrom 112 = .ok (.aaload, 1) := by decide +kernel
theorem dX6_layFrom_113 : decode cX6_layFrom 113 = .ok (.invokevirtual 65, 3) := by decide +kernel
theorem dX6_layFrom_116 : decode cX6_layFrom 116 = .ok (.iinc 4 1, 3) := by decide +kernel
theorem dX6_layFrom_119 : decode cX6_layFrom 119 = .ok (.goto (-101), 3) := by decide +kernel
theorem dX6_layFrom_122 : decode cX6_layFrom 122 = .ok (.return_, 1) := by decide +kernel
theorem dX6_lay_0 : decode cX6_lay 0 = .ok (.iconst 0, 1) := by decide +kernel
theorem dX6_lay_1 : decode cX6_lay 1 = .ok (.istore_n 3, 1) := by decide +kernel
theorem dX6_lay_2 : decode cX6_lay 2 = .ok (.iload_n 3, 1) := by decide +kernel
theorem dX6_lay_3 : decode cX6_lay 3 = .ok (.iconst 4, 1) := by decide +kernel
theorem dX6_lay_4 : decode cX6_lay 4 = .ok (.if_icmp .ge 67, 3) := by decide +kernel
theorem dX6_lay_7 : decode cX6_lay 7 = .ok (.aload_n 0, 1) := by decide +kernel
theorem dX6_lay_8 : decode cX6_lay 8 = .ok (.getfield 16, 3) := by decide +kernel
theorem dX6_lay_11 : decode cX6_lay 11 = .ok (.iload_n 1, 1) := by decide +kernel
theorem dX6_lay_12 : decode cX6_lay 12 = .ok (.iaload, 1) := by decide +kernel
theorem dX6_lay_13 : decode cX6_lay 13 = .ok (.iload_n 3, 1) := by decide +kernel
theorem dX6_lay_14 : decode cX6_lay 14 = .ok (.iadd, 1) := by decide +kernel
theorem dX6_lay_15 : decode cX6_lay 15 = .ok (.istore 4, 2) := by decide +kernel
theorem dX6_lay_17 : decode cX6_lay 17 = .ok (.iload 4, 2) := by decide +kernel
theorem dX6_lay_19 : decode cX6_lay 19 = .ok (.invokestatic 69, 3) := by decide +kernel
theorem dX6_lay_22 : decode cX6_lay 22 = .ok (.ifCond .eq 43, 3) := by decide +kernel
theorem dX6_lay_25 : decode cX6_lay 25 = .ok (.aload_n 0, 1) := by decide +kernel
theorem dX6_lay_26 : decode cX6_lay 26 = .ok (.getfield 20, 3) := by decide +kernel
theorem dX6_lay_29 : decode cX6_lay 29 = .ok (.iload_n 1, 1) := by decide +kernel
theorem dX6_lay_30 : decode cX6_lay 30 = .ok (.iload_n 3, 1) := by decide +kernel
theorem dX6_lay_31 : decode cX6_lay 31 = .ok (.invokevirtual 73, 3) := by decide +kernel
theorem dX6_lay_34 : decode cX6_lay 34 = .ok (.ifCond .eq 31, 3) := by decide +kernel
theorem dX6_lay_37 : decode cX6_lay 37 = .ok (.aload_n 0, 1) := by decide +kernel
theorem dX6_lay_38 : decode cX6_lay 38 = .ok (.aload_n 2, 1) := by decide +kernel
theorem dX6_lay_39 : decode cX6_lay 39 = .ok (.iload 4, 2) := by decide +kernel
theorem dX6_lay_41 : decode cX6_lay 41 = .ok (.iaload, 1) := by decide +kernel
theorem dX6_lay_42 : decode cX6_lay 42 = .ok (.invokevirtual 77, 3) := by decide +kernel
theorem dX6_lay_45 : decode cX6_lay 45 = .ok (.ifCond .eq 20, 3) := by decide +kernel
theorem dX6_lay_48 : decode cX6_lay 48 = .ok (.aload_n 2, 1) := by decide +kernel
theorem dX6_lay_49 : decode cX6_lay 49 = .ok (.iload 4, 2) := by decide +kernel
theorem dX6_lay_51 : decode cX6_lay 51 = .ok (.aload_n 0, 1) := by decide +kernel
theorem dX6_lay_52 : decode cX6_lay 52 = .ok (.getfield 20, 3) := by decide +kernel
theorem dX6_lay_55 : decode cX6_lay 55 = .ok (.iload_n 1, 1) := by decide +kernel
theorem dX6_lay_56 : decode cX6_lay 56 = .ok (.aload_n 0, 1) := by decide +kernel
theorem dX6_lay_57 : decode cX6_lay 57 = .ok (.getfield 30, 3) := by decide +kernel
theorem dX6_lay_60 : decode cX6_lay 60 = .ok (.iload_n 3, 1) := by decide +kernel
theorem dX6_lay_61 : decode cX6_lay 61 = .ok (.invokevirtual 80, 3) := by decide +kernel
theorem dX6_lay_64 : decode cX6_lay 64 = .ok (.iastore, 1) := by decide +kernel
theorem dX6_lay_65 : decode cX6_lay 65 = .ok (.iinc 3 1, 3) := by decide +kernel
theorem dX6_lay_68 : decode cX6_lay 68 = .ok (.goto (-66), 3) := by decide +kernel
theorem dX6_lay_71 : decode cX6_lay 71 = .ok (.return_, 1) := by decide +kernel
theorem dX6_liesUpper_0 : decode cX6_liesUpper 0 = .ok (.aload_n 0, 1) := by decide +kernel
theorem dX6_liesUpper_1 : decode cX6_liesUpper 1 = .ok (.getfield 30, 3) := by decide +kernel
theorem dX6_liesUpper_4 : decode cX6_liesUpper 4 = .ok (.ifCond .eq 7, 3) := by decide +kernel
theorem dX6_liesUpper_7 : decode cX6_liesUpper 7 = .ok (.iload_n 1, 1) := by decide +kernel
theorem dX6_liesUpper_8 : decode cX6_liesUpper 8 = .ok (.ifCond .ge 7, 3) := by decide +kernel
theorem dX6_liesUpper_11 : decode cX6_liesUpper 11 = .ok (.iconst 1, 1) := by decide +kernel
theorem dX6_liesUpper_12 : decode cX6_liesUpper 12 = .ok (.goto 4, 3) := by decide +kernel
theorem dX6_liesUpper_15 : decode cX6_liesUpper 15 = .ok (.iconst 0, 1) := by decide +kernel
theorem dX6_liesUpper_16 : decode cX6_liesUpper 16 = .ok (.ireturn, 1) := by decide +kernel
theorem dX6_reach_0 : decode cX6_reach 0 = .ok (.aload_n 0, 1) := by decide +kernel
theorem dX6_reach_1 : decode cX6_reach 1 = .ok (.getfield 44, 3) := by decide +kernel
theorem dX6_reach_4 : decode cX6_reach 4 = .ok (.ifCond .ne 7, 3) := by decide +kernel
theorem dX6_reach_7 : decode cX6_reach 7 = .ok (.iconst 0, 1) := by decide +kernel
theorem dX6_reach_8 : decode cX6_reach 8 = .ok (.goto 21, 3) := by decide +kernel
theorem dX6_reach_11 : decode cX6_reach 11 = .ok (.bipush 28, 2) := by decide +kernel
theorem dX6_reach_13 : decode cX6_reach 13 = .ok (.aload_n 0, 1) := by decide +kernel
theorem dX6_reach_14 : decode cX6_reach 14 = .ok (.getfield 16, 3) := by decide +kernel
theorem dX6_reach_17 : decode cX6_reach 17 = .ok (.aload_n 0, 1) := by decide +kernel
end
section
theorem dX6_reach_18 : decode cX6_reach 18 = .ok (.getfield 44, 3) := by decide +kernel
theorem dX6_reach_21 : decode cX6_reach 21 = .ok (.iconst 1, 1) := by decide +kernel
theorem dX6_reach_22 : decode cX6_reach 22 = .ok (.isub, 1) := by decide +kernel
theorem dX6_reach_23 : decode cX6_reach 23 = .ok (.iaload, 1) := by decide +kernel
theorem dX6_reach_24 : decode cX6_reach 24 = .ok (.iconst 4, 1) := by decide +kernel
theorem dX6_reach_25 : decode cX6_reach 25 = .ok (.iadd, 1) := by decide +kernel
theorem dX6_reach_26 : decode cX6_reach 26 = .ok (.invokestatic 84, 3) := by decide +kernel
theorem dX6_reach_29 : decode cX6_reach 29 = .ok (.ireturn, 1) := by decide +kernel
theorem dX6_markAt_0 : decode cX6_markAt 0 = .ok (.iload_n 1, 1) := by decide +kernel
theorem dX6_markAt_1 : decode cX6_markAt 1 = .ok (.ifCond .lt 23, 3) := by decide +kernel
theorem dX6_markAt_4 : decode cX6_markAt 4 = .ok (.iload_n 1, 1) := by decide +kernel
theorem dX6_markAt_5 : decode cX6_markAt 5 = .ok (.bipush 28, 2) := by decide +kernel
theorem dX6_markAt_7 : decode cX6_markAt 7 = .ok (.if_icmp .ge 17, 3) := by decide +kernel
theorem dX6_markAt_10 : decode cX6_markAt 10 = .ok (.aload_n 0, 1) := by decide +kernel
theorem dX6_markAt_11 : decode cX6_markAt 11 = .ok (.getfield 11, 3) := by decide +kernel
theorem dX6_markAt_14 : decode cX6_markAt 14 = .ok (.aload_n 0, 1) := by decide +kernel
theorem dX6_markAt_15 : decode cX6_markAt 15 = .ok (.getfield 44, 3) := by decide +kernel
theorem dX6_markAt_18 : decode cX6_markAt 18 = .ok (.aaload, 1) := by decide +kernel
theorem dX6_markAt_19 : decode cX6_markAt 19 = .ok (.iload_n 1, 1) := by decide +kernel
theorem dX6_markAt_20 : decode cX6_markAt 20 = .ok (.iaload, 1) := by decide +kernel
theorem dX6_markAt_21 : decode cX6_markAt 21 = .ok (.goto 5, 3) := by decide +kernel
theorem dX6_markAt_24 : decode cX6_markAt 24 = .ok (.bipush (-9), 2) := by decide +kernel
theorem dX6_markAt_26 : decode cX6_markAt 26 = .ok (.ireturn, 1) := by decide +kernel
theorem dX6_letterAt_0 : decode cX6_letterAt 0 = .ok (.aload_n 0, 1) := by decide +kernel
theorem dX6_letterAt_1 : decode cX6_letterAt 1 = .ok (.getfield 20, 3) := by decide +kernel
theorem dX6_letterAt_4 : decode cX6_letterAt 4 = .ok (.aload_n 0, 1) := by decide +kernel
theorem dX6_letterAt_5 : decode cX6_letterAt 5 = .ok (.iload_n 1, 1) := by decide +kernel
theorem dX6_letterAt_6 : decode cX6_letterAt 6 = .ok (.invokevirtual 87, 3) := by decide +kernel
theorem dX6_letterAt_9 : decode cX6_letterAt 9 = .ok (.invokevirtual 90, 3) := by decide +kernel
theorem dX6_letterAt_12 : decode cX6_letterAt 12 = .ok (.ireturn, 1) := by decide +kernel
theorem dX6_bladeAt_0 : decode cX6_bladeAt 0 = .ok (.aload_n 0, 1) := by decide +kernel
theorem dX6_bladeAt_1 : decode cX6_bladeAt 1 = .ok (.iload_n 1, 1) := by decide +kernel
theorem dX6_bladeAt_2 : decode cX6_bladeAt 2 = .ok (.invokevirtual 87, 3) := by decide +kernel
theorem dX6_bladeAt_5 : decode cX6_bladeAt 5 = .ok (.istore_n 2, 1) := by decide +kernel
theorem dX6_bladeAt_6 : decode cX6_bladeAt 6 = .ok (.iload_n 2, 1) := by decide +kernel
theorem dX6_bladeAt_7 : decode cX6_bladeAt 7 = .ok (.ifCond .ge 8, 3) := by decide +kernel
theorem dX6_bladeAt_10 : decode cX6_bladeAt 10 = .ok (.bipush (-9), 2) := by decide +kernel
theorem dX6_bladeAt_12 : decode cX6_bladeAt 12 = .ok (.goto 7, 3) := by decide +kernel
theorem dX6_bladeAt_15 : decode cX6_bladeAt 15 = .ok (.iload_n 2, 1) := by decide +kernel
theorem dX6_bladeAt_16 : decode cX6_bladeAt 16 = .ok (.bipush 8, 2) := by decide +kernel
theorem dX6_bladeAt_18 : decode cX6_bladeAt 18 = .ok (.idiv, 1) := by decide +kernel
theorem dX6_bladeAt_19 : decode cX6_bladeAt 19 = .ok (.ireturn, 1) := by decide +kernel
theorem dX6_cellsSeen_0 : decode cX6_cellsSeen 0 = .ok (.iconst 0, 1) := by decide +kernel
theorem dX6_cellsSeen_1 : decode cX6_cellsSeen 1 = .ok (.istore_n 2, 1) := by decide +kernel
theorem dX6_cellsSeen_2 : decode cX6_cellsSeen 2 = .ok (.aload_n 0, 1) := by decide +kernel
theorem dX6_cellsSeen_3 : decode cX6_cellsSeen 3 = .ok (.invokevirtual 93, 3) := by decide +kernel
theorem dX6_cellsSeen_6 : decode cX6_cellsSeen 6 = .ok (.istore_n 3, 1) := by decide +kernel
theorem dX6_cellsSeen_7 : decode cX6_cellsSeen 7 = .ok (.iconst 0, 1) := by decide +kernel
theorem dX6_cellsSeen_8 : decode cX6_cellsSeen 8 = .ok (.istore 4, 2) := by decide +kernel
theorem dX6_cellsSeen_10 : decode cX6_cellsSeen 10 = .ok (.iload 4, 2) := by decide +kernel
theorem dX6_cellsSeen_12 : decode cX6_cellsSeen 12 = .ok (.iload_n 3, 1) := by decide +kernel
theorem dX6_cellsSeen_13 : decode cX6_cellsSeen 13 = .ok (.if_icmp .ge 22, 3) := by decide +kernel
theorem dX6_cellsSeen_16 : decode cX6_cellsSeen 16 = .ok (.aload_n 0, 1) := by decide +kernel
theorem dX6_cellsSeen_17 : decode cX6_cellsSeen 17 = .ok (.iload 4, 2) := by decide +kernel
theorem dX6_cellsSeen_19 : decode cX6_cellsSeen 19 = .ok (.invokevirtual 96, 3) := by decide +kernel
theorem dX6_cellsSeen_22 : decode cX6_cellsSeen 22 = .ok (.iload_n 1, 1) := by decide +kernel
theorem dX6_cellsSeen_23 : decode cX6_cellsSeen 23 = .ok (.if_icmp .ne 6, 3) := by decide +kernel
theorem dX6_cellsSeen_26 : decode cX6_cellsSeen 26 = .ok (.iinc 2 1, 3) := by decide +kernel
theorem dX6_cellsSeen_29 : decode cX6_cellsSeen 29 = .ok (.iinc 4 1, 3) := by decide +kernel
theorem dX6_cellsSeen_32 : decode cX6_cellsSeen 32 = .ok (.goto (-22), 3) := by decide +kernel
theorem dX6_cellsSeen_35 : decode cX6_cellsSeen 35 = .ok (.iload_n 2, 1) := by decide +kernel
theorem dX6_cellsSeen_36 : decode cX6_cellsSeen 36 = .ok (.ireturn, 1) := by decide +kernel
theorem dX6_placesSeen_0 : decode cX6_placesSeen 0 = .ok (.iconst 0, 1) := by decide +kernel
theorem dX6_placesSeen_1 : decode cX6_placesSeen 1 = .ok (.istore_n 1, 1) := by decide +kernel
theorem dX6_placesSeen_2 : decode cX6_placesSeen 2 = .ok (.aload_n 0, 1) := by decide +kernel
theorem dX6_placesSeen_3 : decode cX6_placesSeen 3 = .ok (.invokevirtual 93, 3) := by decide +kernel
theorem dX6_placesSeen_6 : decode cX6_placesSeen 6 = .ok (.istore_n 2, 1) := by decide +kernel
theorem dX6_placesSeen_7 : decode cX6_placesSeen 7 = .ok (.iconst 0, 1) := by decide +kernel
theorem dX6_placesSeen_8 : decode cX6_placesSeen 8 = .ok (.istore_n 3, 1) := by decide +kernel
theorem dX6_placesSeen_9 : decode cX6_placesSeen 9 = .ok (.iload_n 3, 1) := by decide +kernel
theorem dX6_placesSeen_10 : decode cX6_placesSeen 10 = .ok (.iload_n 2, 1) := by decide +kernel
theorem dX6_placesSeen_11 : decode cX6_placesSeen 11 = .ok (.if_icmp .ge 20, 3) := by decide +kernel
theorem dX6_placesSeen_14 : decode cX6_placesSeen 14 = .ok (.aload_n 0, 1) := by decide +kernel
theorem dX6_placesSeen_15 : decode cX6_placesSeen 15 = .ok (.iload_n 3, 1) := by decide +kernel
theorem dX6_placesSeen_16 : decode cX6_placesSeen 16 = .ok (.invokevirtual 87, 3) := by decide +kernel
theorem dX6_placesSeen_19 : decode cX6_placesSeen 19 = .ok (.ifCond .lt 6, 3) := by decide +kernel
theorem dX6_placesSeen_22 : decode cX6_placesSeen 22 = .ok (.iinc 1 1, 3) := by decide +kernel
theorem dX6_placesSeen_25 : decode cX6_placesSeen 25 = .ok (.iinc 3 1, 3) := by decide +kernel
theorem dX6_placesSeen_28 : decode cX6_placesSeen 28 = .ok (.goto (-19), 3) := by decide +kernel
theorem dX6_placesSeen_31 : decode cX6_placesSeen 31 = .ok (.iload_n 1, 1) := by decide +kernel
theorem dX6_placesSeen_32 : decode cX6_placesSeen 32 = .ok (.ireturn, 1) := by decide +kernel
theorem dX6_placesWith_0 : decode cX6_placesWith 0 = .ok (.iconst 0, 1) := by decide +kernel
theorem dX6_placesWith_1 : decode cX6_placesWith 1 = .ok (.istore_n 2, 1) := by decide +kernel
theorem dX6_placesWith_2 : decode cX6_placesWith 2 = .ok (.aload_n 0, 1) := by decide +kernel
theorem dX6_placesWith_3 : decode cX6_placesWith 3 = .ok (.invokevirtual 93, 3) := by decide +kernel
theorem dX6_placesWith_6 : decode cX6_placesWith 6 = .ok (.istore_n 3, 1) := by decide +kernel
theorem dX6_placesWith_7 : decode cX6_placesWith 7 = .ok (.iconst 0, 1) := by decide +kernel
theorem dX6_placesWith_8 : decode cX6_placesWith 8 = .ok (.istore 4, 2) := by decide +kernel
theorem dX6_placesWith_10 : decode cX6_placesWith 10 = .ok (.iload 4, 2) := by decide +kernel
theorem dX6_placesWith_12 : decode cX6_placesWith 12 = .ok (.iload_n 3, 1) := by decide +kernel
theorem dX6_placesWith_13 : decode cX6_placesWith 13 = .ok (.if_icmp .ge 22, 3) := by decide +kernel
theorem dX6_placesWith_16 : decode cX6_placesWith 16 = .ok (.aload_n 0, 1) := by decide +kernel
theorem dX6_placesWith_17 : decode cX6_placesWith 17 = .ok (.iload 4, 2) := by decide +kernel
theorem dX6_placesWith_19 : decode cX6_placesWith 19 = .ok (.invokevirtual 99, 3) := by decide +kernel
theorem dX6_placesWith_22 : decode cX6_placesWith 22 = .ok (.iload_n 1, 1) := by decide +kernel
theorem dX6_placesWith_23 : decode cX6_placesWith 23 = .ok (.if_icmp .ne 6, 3) := by decide +kernel
theorem dX6_placesWith_26 : decode cX6_placesWith 26 = .ok (.iinc 2 1, 3) := by decide +kernel
theorem dX6_placesWith_29 : decode cX6_placesWith 29 = .ok (.iinc 4 1, 3) := by decide +kernel
theorem dX6_placesWith_32 : decode cX6_placesWith 32 = .ok (.goto (-22), 3) := by decide +kernel
theorem dX6_placesWith_35 : decode cX6_placesWith 35 = .ok (.iload_n 2, 1) := by decide +kernel
theorem dX6_placesWith_36 : decode cX6_placesWith 36 = .ok (.ireturn, 1) := by decide +kernel
theorem dX6_wide_0 : decode cX6_wide 0 = .ok (.aload_n 0, 1) := by decide +kernel
theorem dX6_wide_1 : decode cX6_wide 1 = .ok (.invokevirtual 93, 3) := by decide +kernel
theorem dX6_wide_4 : decode cX6_wide 4 = .ok (.iconst 1, 1) := by decide +kernel
theorem dX6_wide_5 : decode cX6_wide 5 = .ok (.isub, 1) := by decide +kernel
theorem dX6_wide_6 : decode cX6_wide 6 = .ok (.istore_n 1, 1) := by decide +kernel
theorem dX6_wide_7 : decode cX6_wide 7 = .ok (.iload_n 1, 1) := by decide +kernel
theorem dX6_wide_8 : decode cX6_wide 8 = .ok (.ifCond .lt 21, 3) := by decide +kernel
theorem dX6_wide_11 : decode cX6_wide 11 = .ok (.aload_n 0, 1) := by decide +kernel
theorem dX6_wide_12 : decode cX6_wide 12 = .ok (.iload_n 1, 1) := by decide +kernel
theorem dX6_wide_13 : decode cX6_wide 13 = .ok (.invokevirtual 87, 3) := by decide +kernel
theorem dX6_wide_16 : decode cX6_wide 16 = .ok (.ifCond .lt 7, 3) := by decide +kernel
theorem dX6_wide_19 : decode cX6_wide 19 = .ok (.iload_n 1, 1) := by decide +kernel
theorem dX6_wide_20 : decode cX6_wide 20 = .ok (.iconst 1, 1) := by decide +kernel
theorem dX6_wide_21 : decode cX6_wide 21 = .ok (.iadd, 1) := by decide +kernel
theorem dX6_wide_22 : decode cX6_wide 22 = .ok (.ireturn, 1) := by decide +kernel
theorem dX6_wide_23 : decode cX6_wide 23 = .ok (.iinc 1 (-1), 3) := by decide +kernel
theorem dX6_wide_26 : decode cX6_wide 26 = .ok (.goto (-19), 3) := by decide +kernel
theorem dX6_wide_29 : decode cX6_wide 29 = .ok (.iconst 0, 1) := by decide +kernel
theorem dX6_wide_30 : decode cX6_wide 30 = .ok (.ireturn, 1) := by decide +kernel
theorem dX7_init_0 : decode cX7_init 0 = .ok (.aload_n 0, 1) := by decide +kernel
theorem dX7_init_1 : decode cX7_init 1 = .ok (.invokespecial 3, 3) := by decide +kernel
theorem dX7_init_4 : decode cX7_init 4 = .ok (.aload_n 0, 1) := by decide +kernel
theorem dX7_init_5 : decode cX7_init 5 = .ok (.aload_n 1, 1) := by decide +kernel
theorem dX7_init_6 : decode cX7_init 6 = .ok (.putfield 9, 3) := by decide +kernel
theorem dX7_init_9 : decode cX7_init 9 = .ok (.aload_n 0, 1) := by decide +kernel
theorem dX7_init_10 : decode cX7_init 10 = .ok (.aload_n 2, 1) := by decide +kernel
theorem dX7_init_11 : decode cX7_init 11 = .ok (.putfield 15, 3) := by decide +kernel
theorem dX7_init_14 : decode cX7_init 14 = .ok (.aload_n 0, 1) := by decide +kernel
theorem dX7_init_15 : decode cX7_init 15 = .ok (.aload_n 3, 1) := by decide +kernel
theorem dX7_init_16 : decode cX7_init 16 = .ok (.putfield 19, 3) := by decide +kernel
theorem dX7_init_19 : decode cX7_init 19 = .ok (.return_, 1) := by decide +kernel
theorem dX7_begin_0 : decode cX7_begin 0 = .ok (.aload_n 0, 1) := by decide +kernel
theorem dX7_begin_1 : decode cX7_begin 1 = .ok (.getfield 15, 3) := by decide +kernel
theorem dX7_begin_4 : decode cX7_begin 4 = .ok (.invokevirtual 23, 3) := by decide +kernel
theorem dX7_begin_7 : decode cX7_begin 7 = .ok (.aload_n 0, 1) := by decide +kernel
theorem dX7_begin_8 : decode cX7_begin 8 = .ok (.getfield 19, 3) := by decide +kernel
theorem dX7_begin_11 : decode cX7_begin 11 = .ok (.aload_n 0, 1) := by decide +kernel
theorem dX7_begin_12 : decode cX7_begin 12 = .ok (.getfield 15, 3) := by decide +kernel
theorem dX7_begin_15 : decode cX7_begin 15 = .ok (.iload_n 1, 1) := by decide +kernel
theorem dX7_begin_16 : decode cX7_begin 16 = .ok (.invokevirtual 28, 3) := by decide +kernel
theorem dX7_begin_19 : decode cX7_begin 19 = .ok (.return_, 1) := by decide +kernel
theorem dX7_step_0 : decode cX7_step 0 = .ok (.aload_n 0, 1) := by decide +kernel
theorem dX7_step_1 : decode cX7_step 1 = .ok (.getfield 9, 3) := by decide +kernel
theorem dX7_step_4 : decode cX7_step 4 = .ok (.invokevirtual 34, 3) := by decide +kernel
theorem dX7_step_7 : decode cX7_step 7 = .ok (.iconst 2, 1) := by decide +kernel
theorem dX7_step_8 : decode cX7_step 8 = .ok (.isub, 1) := by decide +kernel
theorem dX7_step_9 : decode cX7_step 9 = .ok (.istore_n 1, 1) := by decide +kernel
theorem dX7_step_10 : decode cX7_step 10 = .ok (.iload_n 1, 1) := by decide +kernel
theorem dX7_step_11 : decode cX7_step 11 = .ok (.ifCond .lt 46, 3) := by decide +kernel
theorem dX7_step_14 : decode cX7_step 14 = .ok (.aload_n 0, 1) := by decide +kernel
theorem dX7_step_15 : decode cX7_step 15 = .ok (.getfield 15, 3) := by decide +kernel
theorem dX7_step_18 : decode cX7_step 18 = .ok (.iload_n 1, 1) := by decide +kernel
theorem dX7_step_19 : decode cX7_step 19 = .ok (.invokevirtual 40, 3) := by decide +kernel
theorem dX7_step_22 : decode cX7_step 22 = .ok (.ifCond .eq 21, 3) := by decide +kernel
theorem dX7_step_25 : decode cX7_step 25 = .ok (.aload_n 0, 1) := by decide +kernel
theorem dX7_step_26 : decode cX7_step 26 = .ok (.getfield 19, 3) := by decide +kernel
theorem dX7_step_29 : decode cX7_step 29 = .ok (.iload_n 1, 1) := by decide +kernel
theorem dX7_step_30 : decode cX7_step 30 = .ok (.iconst 1, 1) := by decide +kernel
theorem dX7_step_31 : decode cX7_step 31 = .ok (.iadd, 1) := by decide +kernel
theorem dX7_step_32 : decode cX7_step 32 = .ok (.aload_n 0, 1) := by decide +kernel
theorem dX7_step_33 : decode cX7_step 33 = .ok (.getfield 15, 3) := by decide +kernel
theorem dX7_step_36 : decode cX7_step 36 = .ok (.bipush 63, 2) := by decide +kernel
theorem dX7_step_38 : decode cX7_step 38 = .ok (.invokevirtual 44, 3) := by decide +kernel
theorem dX7_step_41 : decode cX7_step 41 = .ok (.iconst 1, 1) := by decide +kernel
theorem dX7_step_42 : decode cX7_step 42 = .ok (.ireturn, 1) := by decide +kernel
theorem dX7_step_43 : decode cX7_step 43 = .ok (.aload_n 0, 1) := by decide +kernel
theorem dX7_step_44 : decode cX7_step 44 = .ok (.getfield 15, 3) := by decide +kernel
theorem dX7_step_47 : decode cX7_step 47 = .ok (.iload_n 1, 1) := by decide +kernel
theorem dX7_step_48 : decode cX7_step 48 = .ok (.invokevirtual 48, 3) := by decide +kernel
theorem dX7_step_51 : decode cX7_step 51 = .ok (.iinc 1 (-1), 3) := by decide +kernel
theorem dX7_step_54 : decode cX7_step 54 = .ok (.goto (-44), 3) := by decide +kernel
theorem dX7_step_57 : decode cX7_step 57 = .ok (.iconst 0, 1) := by decide +kernel
theorem dX7_step_58 : decode cX7_step 58 = .ok (.ireturn, 1) := by decide +kernel
theorem dX8_init_0 : decode cX8_init 0 = .ok (.aload_n 0, 1) := by decide +kernel
theorem dX8_init_1 : decode cX8_init 1 = .ok (.invokespecial 3, 3) := by decide +kernel
theorem dX8_init_4 : decode cX8_init 4 = .ok (.aload_n 0, 1) := by decide +kernel
theorem dX8_init_5 : decode cX8_init 5 = .ok (.iconst 5, 1) := by decide +kernel
theorem dX8_init_6 : decode cX8_init 6 = .ok (.newarray .int, 2) := by decide +kernel
theorem dX8_init_8 : decode cX8_init 8 = .ok (.putfield 9, 3) := by decide +kernel
theorem dX8_init_11 : decode cX8_init 11 = .ok (.return_, 1) := by decide +kernel
theorem dX8_length_0 : decode cX8_length 0 = .ok (.aload_n 0, 1) := by decide +kernel
theorem dX8_length_1 : decode cX8_length 1 = .ok (.getfield 15, 3) := by decide +kernel
theorem dX8_length_4 : decode cX8_length 4 = .ok (.ireturn, 1) := by decide +kernel
theorem dX8_take_0 : decode cX8_take 0 = .ok (.lload_n 2, 1) := by decide +kernel
theorem dX8_take_1 : decode cX8_take 1 = .ok (.lstore 4, 2) := by decide +kernel
theorem dX8_take_3 : decode cX8_take 3 = .ok (.aload_n 0, 1) := by decide +kernel
theorem dX8_take_4 : decode cX8_take 4 = .ok (.iconst 0, 1) := by decide +kernel
theorem dX8_take_5 : decode cX8_take 5 = .ok (.iload_n 1, 1) := by decide +kernel
theorem dX8_take_6 : decode cX8_take 6 = .ok (.iconst 5, 1) := by decide +kernel
theorem dX8_take_7 : decode cX8_take 7 = .ok (.invokestatic 19, 3) := by decide +kernel
theorem dX8_take_10 : decode cX8_take 10 = .ok (.invokestatic 25, 3) := by decide +kernel
theorem dX8_take_13 : decode cX8_take 13 = .ok (.putfield 15, 3) := by decide +kernel
theorem dX8_take_16 : decode cX8_take 16 = .ok (.aload_n 0, 1) := by decide +kernel
theorem dX8_take_17 : decode cX8_take 17 = .ok (.getfield 15, 3) := by decide +kernel
theorem dX8_take_20 : decode cX8_take 20 = .ok (.iconst 1, 1) := by decide +kernel
theorem dX8_take_21 : decode cX8_take 21 = .ok (.isub, 1) := by decide +kernel
theorem dX8_take_22 : decode cX8_take 22 = .ok (.istore 6, 2) := by decide +kernel
theorem dX8_take_24 : decode cX8_take 24 = .ok (.iload 6, 2) := by decide +kernel
theorem dX8_take_26 : decode cX8_take 26 = .ok (.ifCond .lt 35, 3) := by decide +kernel
theorem dX8_take_29 : decode cX8_take 29 = .ok (.aload_n 0, 1) := by decide +kernel
theorem dX8_take_30 : decode cX8_take 30 = .ok (.getfield 9, 3) := by decide +kernel
theorem dX8_take_33 : decode cX8_take 33 = .ok (.iload 6, 2) := by decide +kernel
theorem dX8_take_35 : decode cX8_take 35 = .ok (.ldc2_w 28, 3) := by decide +kernel
theorem dX8_take_38 : decode cX8_take 38 = .ok (.lload 4, 2) := by decide +kernel
theorem dX8_take_40 : decode cX8_take 40 = .ok (.ldc2_w 30, 3) := by decide +kernel
theorem dX8_take_43 : decode cX8_take 43 = .ok (.lrem, 1) := by decide +kernel
theorem dX8_take_44 : decode cX8_take 44 = .ok (.ladd, 1) := by decide +kernel
theorem dX8_take_45 : decode cX8_take 45 = .ok (.l2i, 1) := by decide +kernel
theorem dX8_take_46 : decode cX8_take 46 = .ok (.iastore, 1) := by decide +kernel
theorem dX8_take_47 : decode cX8_take 47 = .ok (.lload 4, 2) := by decide +kernel
theorem dX8_take_49 : decode cX8_take 49 = .ok (.ldc2_w 30, 3) := by decide +kernel
theorem dX8_take_52 : decode cX8_take 52 = .ok (.ldiv, 1) := by decide +kernel
theorem dX8_take_53 : decode cX8_take 53 = .ok (.lstore 4, 2) := by decide +kernel
theorem dX8_take_55 : decode cX8_take 55 = .ok (.iinc 6 (-1), 3) := by decide +kernel
theorem dX8_take_58 : decode cX8_take 58 = .ok (.goto (-34), 3) := by decide +kernel
theorem dX8_take_61 : decode cX8_take 61 = .ok (.return_, 1) := by decide +kernel
theorem dX8_isRead_0 : decode cX8_isRead 0 = .ok (.aload_n 0, 1) := by decide +kernel
theorem dX8_isRead_1 : decode cX8_isRead 1 = .ok (.aload_n 1, 1) := by decide +kernel
theorem dX8_isRead_2 : decode cX8_isRead 2 = .ok (.invokevirtual 32, 3) := by decide +kernel
theorem dX8_isRead_5 : decode cX8_isRead 5 = .ok (.bipush (-9), 2) := by decide +kernel
theorem dX8_isRead_7 : decode cX8_isRead 7 = .ok (.if_icmp .eq 7, 3) := by decide +kernel
theorem dX8_isRead_10 : decode cX8_isRead 10 = .ok (.iconst 1, 1) := by decide +kernel
theorem dX8_isRead_11 : decode cX8_isRead 11 = .ok (.goto 4, 3) := by decide +kernel
theorem dX8_isRead_14 : decode cX8_isRead 14 = .ok (.iconst 0, 1) := by decide +kernel
theorem dX8_isRead_15 : decode cX8_isRead 15 = .ok (.ireturn, 1) := by decide +kernel
theorem dX8_firstRead_0 : decode cX8_firstRead 0 = .ok (.aload_n 0, 1) := by decide +kernel
theorem dX8_firstRead_1 : decode cX8_firstRead 1 = .ok (.getfield 15, 3) := by decide +kernel
theorem dX8_firstRead_4 : decode cX8_firstRead 4 = .ok (.ifCond .ne 5, 3) := by decide +kernel
theorem dX8_firstRead_7 : decode cX8_firstRead 7 = .ok (.iconst 0, 1) := by decide +kernel
theorem dX8_firstRead_8 : decode cX8_firstRead 8 = .ok (.ireturn, 1) := by decide +kernel
theorem dX8_firstRead_9 : decode cX8_firstRead 9 = .ok (.aload_n 1, 1) := by decide +kernel
theorem dX8_firstRead_10 : decode cX8_firstRead 10 = .ok (.invokevirtual 36, 3) := by decide +kernel
theorem dX8_firstRead_13 : decode cX8_firstRead 13 = .ok (.istore_n 2, 1) := by decide +kernel
theorem dX8_firstRead_14 : decode cX8_firstRead 14 = .ok (.aload_n 1, 1) := by decide +kernel
theorem dX8_firstRead_15 : decode cX8_firstRead 15 = .ok (.invokevirtual 42, 3) := by decide +kernel
theorem dX8_firstRead_18 : decode cX8_firstRead 18 = .ok (.ifCond .ne 7, 3) := by decide +kernel
theorem dX8_firstRead_21 : decode cX8_firstRead 21 = .ok (.iconst 1, 1) := by decide +kernel
theorem dX8_firstRead_22 : decode cX8_firstRead 22 = .ok (.goto 4, 3) := by decide +kernel
theorem dX8_firstRead_25 : decode cX8_firstRead 25 = .ok (.iconst (-1), 1) := by decide +kernel
theorem dX8_firstRead_26 : decode cX8_firstRead 26 = .ok (.istore_n 3, 1) := by decide +kernel
theorem dX8_firstRead_27 : decode cX8_firstRead 27 = .ok (.iload_n 3, 1) := by decide +kernel
theorem dX8_firstRead_28 : decode cX8_firstRead 28 = .ok (.ifCond .le 7, 3) := by decide +kernel
theorem dX8_firstRead_31 : decode cX8_firstRead 31 = .ok (.iconst 0, 1) := by decide +kernel
theorem dX8_firstRead_32 : decode cX8_firstRead 32 = .ok (.goto 6, 3) := by decide +kernel
theorem dX8_firstRead_35 : decode cX8_firstRead 35 = .ok (.iload_n 2, 1) := by decide +kernel
theorem dX8_firstRead_36 : decode cX8_firstRead 36 = .ok (.iconst 1, 1) := by decide +kernel
theorem dX8_firstRead_37 : decode cX8_firstRead 37 = .ok (.isub, 1) := by decide +kernel
theorem dX8_firstRead_38 : decode cX8_firstRead 38 = .ok (.istore 4, 2) := by decide +kernel
theorem dX8_firstRead_40 : decode cX8_firstRead 40 = .ok (.iconst 0, 1) := by decide +kernel
theorem dX8_firstRead_41 : decode cX8_firstRead 41 = .ok (.istore 5, 2) := by decide +kernel
theorem dX8_firstRead_43 : decode cX8_firstRead 43 = .ok (.iload 5, 2) := by decide +kernel
theorem dX8_firstRead_45 : decode cX8_firstRead 45 = .ok (.iload_n 2, 1) := by decide +kernel
theorem dX8_firstRead_46 : decode cX8_firstRead 46 = .ok (.if_icmp .ge 29, 3) := by decide +kernel
theorem dX8_firstRead_49 : decode cX8_firstRead 49 = .ok (.aload_n 0, 1) := by decide +kernel
theorem dX8_firstRead_50 : decode cX8_firstRead 50 = .ok (.aload_n 1, 1) := by decide +kernel
theorem dX8_firstRead_51 : decode cX8_firstRead 51 = .ok (.iload 4, 2) := by decide +kernel
theorem dX8_firstRead_53 : decode cX8_firstRead 53 = .ok (.iload_n 3, 1) := by decide +kernel
theorem dX8_firstRead_54 : decode cX8_firstRead 54 = .ok (.invokevirtual 45, 3) := by decide +kernel
theorem dX8_firstRead_57 : decode cX8_firstRead 57 = .ok (.ifCond .eq 6, 3) := by decide +kernel
theorem dX8_firstRead_60 : decode cX8_firstRead 60 = .ok (.iload 4, 2) := by decide +kernel
theorem dX8_firstRead_62 : decode cX8_firstRead 62 = .ok (.ireturn, 1) := by decide +kernel
theorem dX8_firstRead_63 : decode cX8_firstRead 63 = .ok (.iload 4, 2) := by decide +kernel
theorem dX8_firstRead_65 : decode cX8_firstRead 65 = .ok (.iload_n 3, 1) := by decide +kernel
theorem dX8_firstRead_66 : decode cX8_firstRead 66 = .ok (.iadd, 1) := by decide +kernel
theorem dX8_firstRead_67 : decode cX8_firstRead 67 = .ok (.istore 4, 2) := by decide +kernel
theorem dX8_firstRead_69 : decode cX8_firstRead 69 = .ok (.iinc 5 1, 3) := by decide +kernel
theorem dX8_firstRead_72 : decode cX8_firstRead 72 = .ok (.goto (-29), 3) := by decide +kernel
theorem dX8_firstRead_75 : decode cX8_firstRead 75 = .ok (.bipush (-9), 2) := by decide +kernel
theorem dX8_firstRead_77 : decode cX8_firstRead 77 = .ok (.ireturn, 1) := by decide +kernel
theorem dX8_isReadAt_0 : decode cX8_isReadAt 0 = .ok (.iconst 0, 1) := by decide +kernel
theorem dX8_isReadAt_1 : decode cX8_isReadAt 1 = .ok (.istore 4, 2) := by decide +kernel
theorem dX8_isReadAt_3 : decode cX8_isReadAt 3 = .ok (.iload 4, 2) := by decide +kernel
theorem dX8_isReadAt_5 : decode cX8_isReadAt 5 = .ok (.aload_n 0, 1) := by decide +kernel
theorem dX8_isReadAt_6 : decode cX8_isReadAt 6 = .ok (.getfield 15, 3) := by decide +kernel
theorem dX8_isReadAt_9 : decode cX8_isReadAt 9 = .ok (.if_icmp .ge 31, 3) := by decide +kernel
theorem dX8_isReadAt_12 : decode cX8_isReadAt 12 = .ok (.aload_n 1, 1) := by decide +kernel
theorem dX8_isReadAt_13 : decode cX8_isReadAt 13 = .ok (.iload_n 2, 1) := by decide +kernel
theorem dX8_isReadAt_14 : decode cX8_isReadAt 14 = .ok (.iload 4, 2) := by decide +kernel
theorem dX8_isReadAt_16 : decode cX8_isReadAt 16 = .ok (.iload_n 3, 1) := by decide +kernel
theorem dX8_isReadAt_17 : decode cX8_isReadAt 17 = .ok (.imul, 1) := by decide +kernel
theorem dX8_isReadAt_18 : decode cX8_isReadAt 18 = .ok (.iadd, 1) := by decide +kernel
theorem dX8_isReadAt_19 : decode cX8_isReadAt 19 = .ok (.invokevirtual 49, 3) := by decide +kernel
theorem dX8_isReadAt_22 : decode cX8_isReadAt 22 = .ok (.aload_n 0, 1) := by decide +kernel
theorem dX8_isReadAt_23 : decode cX8_isReadAt 23 = .ok (.getfield 9, 3) := by decide +kernel
theorem dX8_isReadAt_26 : decode cX8_isReadAt 26 = .ok (.iload 4, 2) := by decide +kernel
theorem dX8_isReadAt_28 : decode cX8_isReadAt 28 = .ok (.iaload, 1) := by decide +kernel
theorem dX8_isReadAt_29 : decode cX8_isReadAt 29 = .ok (.if_icmp .eq 5, 3) := by decide +kernel
theorem dX8_isReadAt_32 : decode cX8_isReadAt 32 = .ok (.iconst 0, 1) := by decide +kernel
theorem dX8_isReadAt_33 : decode cX8_isReadAt 33 = .ok (.ireturn, 1) := by decide +kernel
theorem dX8_isReadAt_34 : decode cX8_isReadAt 34 = .ok (.iinc 4 1, 3) := by decide +kernel
theorem dX8_isReadAt_37 : decode cX8_isReadAt 37 = .ok (.goto (-34), 3) := by decide +kernel
theorem dX8_isReadAt_40 : decode cX8_isReadAt 40 = .ok (.iconst 1, 1) := by decide +kernel
theorem dX8_isReadAt_41 : decode cX8_isReadAt 41 = .ok (.ireturn, 1) := by decide +kernel
theorem dX9_init_0 : decode cX9_init 0 = .ok (.aload_n 0, 1) := by decide +kernel
theorem dX9_init_1 : decode cX9_init 1 = .ok (.invokespecial 3, 3) := by decide +kernel
theorem dX9_init_4 : decode cX9_init 4 = .ok (.aload_n 0, 1) := by decide +kernel
theorem dX9_init_5 : decode cX9_init 5 = .ok (.new 9, 3) := by decide +kernel
theorem dX9_init_8 : decode cX9_init 8 = .ok (.dup, 1) := by decide +kernel
theorem dX9_init_9 : decode cX9_init 9 = .ok (.invokespecial 11, 3) := by decide +kernel
theorem dX9_init_12 : decode cX9_init 12 = .ok (.putfield 12, 3) := by decide +kernel
theorem dX9_init_15 : decode cX9_init 15 = .ok (.aload_n 0, 1) := by decide +kernel
theorem dX9_init_16 : decode cX9_init 16 = .ok (.new 16, 3) := by decide +kernel
theorem dX9_init_19 : decode cX9_init 19 = .ok (.dup, 1) := by decide +kernel
theorem dX9_init_20 : decode cX9_init 20 = .ok (.invokespecial 18, 3) := by decide +kernel
theorem dX9_init_23 : decode cX9_init 23 = .ok (.putfield 19, 3) := by decide +kernel
theorem dX9_init_26 : decode cX9_init 26 = .ok (.aload_n 0, 1) := by decide +kernel
theorem dX9_init_27 : decode cX9_init 27 = .ok (.new 23, 3) := by decide +kernel
theorem dX9_init_30 : decode cX9_init 30 = .ok (.dup, 1) := by decide +kernel
theorem dX9_init_31 : decode cX9_init 31 = .ok (.aload_n 0, 1) := by decide +kernel
theorem dX9_init_32 : decode cX9_init 32 = .ok (.getfield 19, 3) := by decide +kernel
theorem dX9_init_35 : decode cX9_init 35 = .ok (.invokespecial 25, 3) := by decide +kernel
theorem dX9_init_38 : decode cX9_init 38 = .ok (.putfield 28, 3) := by decide +kernel
theorem dX9_init_41 : decode cX9_init 41 = .ok (.aload_n 0, 1) := by decide +kernel
theorem dX9_init_42 : decode cX9_init 42 = .ok (.new 23, 3) := by decide +kernel
theorem dX9_init_45 : decode cX9_init 45 = .ok (.dup, 1) := by decide +kernel
theorem dX9_init_46 : decode cX9_init 46 = .ok (.aload_n 0, 1) := by decide +kernel
theorem dX9_init_47 : decode cX9_init 47 = .ok (.getfield 19, 3) := by decide +kernel
theorem dX9_init_50 : decode cX9_init 50 = .ok (.invokespecial 25, 3) := by decide +kernel
theorem dX9_init_53 : decode cX9_init 53 = .ok (.putfield 32, 3) := by decide +kernel
theorem dX9_init_56 : decode cX9_init 56 = .ok (.aload_n 0, 1) := by decide +kernel
theorem dX9_init_57 : decode cX9_init 57 = .ok (.new 35, 3) := by decide +kernel
theorem dX9_init_60 : decode cX9_init 60 = .ok (.dup, 1) := by decide +kernel
theorem dX9_init_61 : decode cX9_init 61 = .ok (.aload_n 0, 1) := by decide +kernel
theorem dX9_init_62 : decode cX9_init 62 = .ok (.getfield 19, 3) := by decide +kernel
theorem dX9_init_65 : decode cX9_init 65 = .ok (.invokespecial 37, 3) := by decide +kernel
theorem dX9_init_68 : decode cX9_init 68 = .ok (.putfield 38, 3) := by decide +kernel
theorem dX9_init_71 : decode cX9_init 71 = .ok (.aload_n 0, 1) := by decide +kernel
theorem dX9_init_72 : decode cX9_init 72 = .ok (.new 42, 3) := by decide +kernel
theorem dX9_init_75 : decode cX9_init 75 = .ok (.dup, 1) := by decide +kernel
theorem dX9_init_76 : decode cX9_init 76 = .ok (.aload_n 0, 1) := by decide +kernel
theorem dX9_init_77 : decode cX9_init 77 = .ok (.getfield 19, 3) := by decide +kernel
theorem dX9_init_80 : decode cX9_init 80 = .ok (.aload_n 0, 1) := by decide +kernel
theorem dX9_init_81 : decode cX9_init 81 = .ok (.getfield 32, 3) := by decide +kernel
theorem dX9_init_84 : decode cX9_init 84 = .ok (.aload_n 0, 1) := by decide +kernel
theorem dX9_init_85 : decode cX9_init 85 = .ok (.getfield 38, 3) := by decide +kernel
theorem dX9_init_88 : decode cX9_init 88 = .ok (.invokespecial 44, 3) := by decide +kernel
theorem dX9_init_91 : decode cX9_init 91 = .ok (.putfield 47, 3) := by decide +kernel
theorem dX9_init_94 : decode cX9_init 94 = .ok (.aload_n 0, 1) := by decide +kernel
theorem dX9_init_95 : decode cX9_init 95 = .ok (.new 51, 3) := by decide +kernel
theorem dX9_init_98 : decode cX9_init 98 = .ok (.dup, 1) := by decide +kernel
theorem dX9_init_99 : decode cX9_init 99 = .ok (.invokespecial 53, 3) := by decide +kernel
theorem dX9_init_102 : decode cX9_init 102 = .ok (.putfield 54, 3) := by decide +kernel
theorem dX9_init_105 : decode cX9_init 105 = .ok (.aload_n 0, 1) := by decide +kernel
theorem dX9_init_106 : decode cX9_init 106 = .ok (.new 58, 3) := by decide +kernel
theorem dX9_init_109 : decode cX9_init 109 = .ok (.dup, 1) := by decide +kernel
theorem dX9_init_110 : decode cX9_init 110 = .ok (.invokespecial 60, 3) := by decide +kernel
theorem dX9_init_113 : decode cX9_init 113 = .ok (.putfield 61, 3) := by decide +kernel
theorem dX9_init_116 : decode cX9_init 116 = .ok (.aload_n 0, 1) := by decide +kernel
theorem dX9_init_117 : decode cX9_init 117 = .ok (.new 65, 3) := by decide +kernel
theorem dX9_init_120 : decode cX9_init 120 = .ok (.dup, 1) := by decide +kernel
theorem dX9_init_121 : decode cX9_init 121 = .ok (.invokespecial 67, 3) := by decide +kernel
theorem dX9_init_124 : decode cX9_init 124 = .ok (.putfield 68, 3) := by decide +kernel
theorem dX9_init_127 : decode cX9_init 127 = .ok (.aload_n 0, 1) := by decide +kernel
theorem dX9_init_128 : decode cX9_init 128 = .ok (.new 72, 3) := by decide +kernel
theorem dX9_init_131 : decode cX9_init 131 = .ok (.dup, 1) := by decide +kernel
theorem dX9_init_132 : decode cX9_init 132 = .ok (.invokespecial 74, 3) := by decide +kernel
theorem dX9_init_135 : decode cX9_init 135 = .ok (.putfield 75, 3) := by decide +kernel
theorem dX9_init_138 : decode cX9_init 138 = .ok (.aload_n 0, 1) := by decide +kernel
theorem dX9_init_139 : decode cX9_init 139 = .ok (.iconst 4, 1) := by decide +kernel
theorem dX9_init_140 : decode cX9_init 140 = .ok (.newarray .int, 2) := by decide +kernel
theorem dX9_init_142 : decode cX9_init 142 = .ok (.putfield 79, 3) := by decide +kernel
theorem dX9_init_145 : decode cX9_init 145 = .ok (.aload_n 0, 1) := by decide +kernel
theorem dX9_init_146 : decode cX9_init 146 = .ok (.iconst 4, 1) := by decide +kernel
theorem dX9_init_147 : decode cX9_init 147 = .ok (.newarray .int, 2) := by decide +kernel
theorem dX9_init_149 : decode cX9_init 149 = .ok (.putfield 83, 3) := by decide +kernel
theorem dX9_init_152 : decode cX9_init 152 = .ok (.aload_n 0, 1) := by decide +kernel
theorem dX9_init_153 : decode cX9_init 153 = .ok (.iconst 4, 1) := by decide +kernel
theorem dX9_init_154 : decode cX9_init 154 = .ok (.newarray .int, 2) := by decide +kernel
theorem dX9_init_156 : decode cX9_init 156 = .ok (.putfield 86, 3) := by decide +kernel
theorem dX9_init_159 : decode cX9_init 159 = .ok (.return_, 1) := by decide +kernel
theorem dX9_write_0 : decode cX9_write 0 = .ok (.iload_n 1, 1) := by decide +kernel
theorem dX9_write_1 : decode cX9_write 1 = .ok (.ifCond .lt 10, 3) := by decide +kernel
theorem dX9_write_4 : decode cX9_write 4 = .ok (.iload_n 1, 1) := by decide +kernel
theorem dX9_write_5 : decode cX9_write 5 = .ok (.sipush 255, 3) := by decide +kernel
theorem dX9_write_8 : decode cX9_write 8 = .ok (.if_icmp .le 6, 3) := by decide +kernel
theorem dX9_write_11 : decode cX9_write 11 = .ok (.bipush (-2), 2) := by decide +kernel
theorem dX9_write_13 : decode cX9_write 13 = .ok (.ireturn, 1) := by decide +kernel
theorem dX9_write_14 : decode cX9_write 14 = .ok (.aload_n 0, 1) := by decide +kernel
theorem dX9_write_15 : decode cX9_write 15 = .ok (.getfield 12, 3) := by decide +kernel
theorem dX9_write_18 : decode cX9_write 18 = .ok (.iload_n 1, 1) := by decide +kernel
theorem dX9_write_19 : decode cX9_write 19 = .ok (.invokevirtual 89, 3) := by decide +kernel
theorem dX9_write_22 : decode cX9_write 22 = .ok (.ifCond .eq 13, 3) := by decide +kernel
theorem dX9_write_25 : decode cX9_write 25 = .ok (.aload_n 0, 1) := by decide +kernel
theorem dX9_write_26 : decode cX9_write 26 = .ok (.getfield 12, 3) := by decide +kernel
theorem dX9_write_29 : decode cX9_write 29 = .ok (.invokevirtual 93, 3) := by decide +kernel
theorem dX9_write_32 : decode cX9_write 32 = .ok (.goto 5, 3) := by decide +kernel
theorem dX9_write_35 : decode cX9_write 35 = .ok (.bipush (-4), 2) := by decide +kernel
theorem dX9_write_37 : decode cX9_write 37 = .ok (.ireturn, 1) := by decide +kernel
theorem dX9_wipe_0 : decode cX9_wipe 0 = .ok (.aload_n 0, 1) := by decide +kernel
theorem dX9_wipe_1 : decode cX9_wipe 1 = .ok (.getfield 12, 3) := by decide +kernel
theorem dX9_wipe_4 : decode cX9_wipe 4 = .ok (.invokevirtual 93, 3) := by decide +kernel
theorem dX9_wipe_7 : decode cX9_wipe 7 = .ok (.istore_n 1, 1) := by decide +kernel
theorem dX9_wipe_8 : decode cX9_wipe 8 = .ok (.aload_n 0, 1) := by decide +kernel
theorem dX9_wipe_9 : decode cX9_wipe 9 = .ok (.getfield 12, 3) := by decide +kernel
theorem dX9_wipe_12 : decode cX9_wipe 12 = .ok (.invokevirtual 97, 3) := by decide +kernel
theorem dX9_wipe_15 : decode cX9_wipe 15 = .ok (.iload_n 1, 1) := by decide +kernel
theorem dX9_wipe_16 : decode cX9_wipe 16 = .ok (.ireturn, 1) := by decide +kernel
theorem dX9_fault_0 : decode cX9_fault 0 = .ok (.aload_n 0, 1) := by decide +kernel
theorem dX9_fault_1 : decode cX9_fault 1 = .ok (.getfield 12, 3) := by decide +kernel
theorem dX9_fault_4 : decode cX9_fault 4 = .ok (.invokevirtual 100, 3) := by decide +kernel
theorem dX9_fault_7 : decode cX9_fault 7 = .ok (.ireturn, 1) := by decide +kernel
theorem dX9_fan_0 : decode cX9_fan 0 = .ok (.aload_n 0, 1) := by decide +kernel
theorem dX9_fan_1 : decode cX9_fan 1 = .ok (.getfield 12, 3) := by decide +kernel
theorem dX9_fan_4 : decode cX9_fan 4 = .ok (.invokevirtual 100, 3) := by decide +kernel
theorem dX9_fan_7 : decode cX9_fan 7 = .ok (.bipush (-9), 2) := by decide +kernel
theorem dX9_fan_9 : decode cX9_fan 9 = .ok (.if_icmp .eq 6, 3) := by decide +kernel
theorem dX9_fan_12 : decode cX9_fan 12 = .ok (.bipush (-3), 2) := by decide +kernel
theorem dX9_fan_14 : decode cX9_fan 14 = .ok (.ireturn, 1) := by decide +kernel
theorem dX9_fan_15 : decode cX9_fan 15 = .ok (.aload_n 0, 1) := by decide +kernel
theorem dX9_fan_16 : decode cX9_fan 16 = .ok (.getfield 19, 3) := by decide +kernel
theorem dX9_fan_19 : decode cX9_fan 19 = .ok (.aload_n 0, 1) := by decide +kernel
theorem dX9_fan_20 : decode cX9_fan 20 = .ok (.getfield 12, 3) := by decide +kernel
theorem dX9_fan_23 : decode cX9_fan 23 = .ok (.invokevirtual 103, 3) := by decide +kernel
theorem dX9_fan_26 : decode cX9_fan 26 = .ok (.aload_n 0, 1) := by decide +kernel
theorem dX9_fan_27 : decode cX9_fan 27 = .ok (.getfield 28, 3) := by decide +kernel
theorem dX9_fan_30 : decode cX9_fan 30 = .ok (.invokevirtual 107, 3) := by decide +kernel
theorem dX9_fan_33 : decode cX9_fan 33 = .ok (.aload_n 0, 1) := by decide +kernel
theorem dX9_fan_34 : decode cX9_fan 34 = .ok (.getfield 61, 3) := by decide +kernel
theorem dX9_fan_37 : decode cX9_fan 37 = .ok (.invokevirtual 108, 3) := by decide +kernel
theorem dX9_fan_40 : decode cX9_fan 40 = .ok (.aload_n 0, 1) := by decide +kernel
theorem dX9_fan_41 : decode cX9_fan 41 = .ok (.getfield 68, 3) := by decide +kernel
theorem dX9_fan_44 : decode cX9_fan 44 = .ok (.invokevirtual 109, 3) := by decide +kernel
theorem dX9_fan_47 : decode cX9_fan 47 = .ok (.aload_n 0, 1) := by decide +kernel
theorem dX9_fan_48 : decode cX9_fan 48 = .ok (.getfield 19, 3) := by decide +kernel
theorem dX9_fan_51 : decode cX9_fan 51 = .ok (.invokevirtual 110, 3) := by decide +kernel
theorem dX9_fan_54 : decode cX9_fan 54 = .ok (.ireturn, 1) := by decide +kernel
theorem dX9_word_0 : decode cX9_word 0 = .ok (.iload_n 1, 1) := by decide +kernel
theorem dX9_word_1 : decode cX9_word 1 = .ok (.ifCond .lt 26, 3) := by decide +kernel
theorem dX9_word_4 : decode cX9_word 4 = .ok (.iload_n 1, 1) := by decide +kernel
theorem dX9_word_5 : decode cX9_word 5 = .ok (.iconst 5, 1) := by decide +kernel
theorem dX9_word_6 : decode cX9_word 6 = .ok (.if_icmp .gt 21, 3) := by decide +kernel
theorem dX9_word_9 : decode cX9_word 9 = .ok (.lload_n 2, 1) := by decide +kernel
theorem dX9_word_10 : decode cX9_word 10 = .ok (.iconst 2, 1) := by decide +kernel
theorem dX9_word_11 : decode cX9_word 11 = .ok (.iload_n 1, 1) := by decide +kernel
theorem dX9_word_12 : decode cX9_word 12 = .ok (.imul, 1) := by decide +kernel
theorem dX9_word_13 : decode cX9_word 13 = .ok (.invokestatic 113, 3) := by decide +kernel
theorem dX9_word_16 : decode cX9_word 16 = .ok (.ifCond .eq 11, 3) := by decide +kernel
theorem dX9_word_19 : decode cX9_word 19 = .ok (.iload_n 1, 1) := by decide +kernel
theorem dX9_word_20 : decode cX9_word 20 = .ok (.lload_n 2, 1) := by decide +kernel
theorem dX9_word_21 : decode cX9_word 21 = .ok (.invokestatic 117, 3) := by decide +kernel
theorem dX9_word_24 : decode cX9_word 24 = .ok (.ifCond .ne 6, 3) := by decide +kernel
theorem dX9_word_27 : decode cX9_word 27 = .ok (.bipush (-2), 2) := by decide +kernel
theorem dX9_word_29 : decode cX9_word 29 = .ok (.ireturn, 1) := by decide +kernel
theorem dX9_word_30 : decode cX9_word 30 = .ok (.aload_n 0, 1) := by decide +kernel
theorem dX9_word_31 : decode cX9_word 31 = .ok (.getfield 54, 3) := by decide +kernel
theorem dX9_word_34 : decode cX9_word 34 = .ok (.invokevirtual 121, 3) := by decide +kernel
theorem dX9_word_37 : decode cX9_word 37 = .ok (.istore 4, 2) := by decide +kernel
theorem dX9_word_39 : decode cX9_word 39 = .ok (.aload_n 0, 1) := by decide +kernel
theorem dX9_word_40 : decode cX9_word 40 = .ok (.getfield 54, 3) := by decide +kernel
theorem dX9_word_43 : decode cX9_word 43 = .ok (.iload_n 1, 1) := by decide +kernel
theorem dX9_word_44 : decode cX9_word 44 = .ok (.lload_n 2, 1) := by decide +kernel
theorem dX9_word_45 : decode cX9_word 45 = .ok (.invokevirtual 122, 3) := by decide +kernel
theorem dX9_word_48 : decode cX9_word 48 = .ok (.iload 4, 2) := by decide +kernel
theorem dX9_word_50 : decode cX9_word 50 = .ok (.ireturn, 1) := by decide +kernel
theorem dX9_blade_0 : decode cX9_blade 0 = .ok (.aload_n 0, 1) := by decide +kernel
theorem dX9_blade_1 : decode cX9_blade 1 = .ok (.getfield 19, 3) := by decide +kernel
theorem dX9_blade_4 : decode cX9_blade 4 = .ok (.iload_n 1, 1) := by decide +kernel
theorem dX9_blade_5 : decode cX9_blade 5 = .ok (.invokevirtual 125, 3) := by decide +kernel
theorem dX9_blade_8 : decode cX9_blade 8 = .ok (.ifCond .ne 5, 3) := by decide +kernel
theorem dX9_blade_11 : decode cX9_blade 11 = .ok (.iconst (-1), 1) := by decide +kernel
theorem dX9_blade_12 : decode cX9_blade 12 = .ok (.ireturn, 1) := by decide +kernel
theorem dX9_blade_13 : decode cX9_blade 13 = .ok (.iload_n 2, 1) := by decide +kernel
theorem dX9_blade_14 : decode cX9_blade 14 = .ok (.tableswitch 113 0 5 #[38, 47, 56, 65, 65, 88], 38) := by decide +kernel
theorem dX9_blade_52 : decode cX9_blade 52 = .ok (.aload_n 0, 1) := by decide +kernel
theorem dX9_blade_53 : decode cX9_blade 53 = .ok (.getfield 19, 3) := by decide +kernel
theorem dX9_blade_56 : decode cX9_blade 56 = .ok (.iload_n 1, 1) := by decide +kernel
theorem dX9_blade_57 : decode cX9_blade 57 = .ok (.invokevirtual 128, 3) := by decide +kernel
theorem dX9_blade_60 : decode cX9_blade 60 = .ok (.ireturn, 1) := by decide +kernel
theorem dX9_blade_61 : decode cX9_blade 61 = .ok (.aload_n 0, 1) := by decide +kernel
theorem dX9_blade_62 : decode cX9_blade 62 = .ok (.getfield 28, 3) := by decide +kernel
theorem dX9_blade_65 : decode cX9_blade 65 = .ok (.iload_n 1, 1) := by decide +kernel
theorem dX9_blade_66 : decode cX9_blade 66 = .ok (.invokevirtual 132, 3) := by decide +kernel
theorem dX9_blade_69 : decode cX9_blade 69 = .ok (.ireturn, 1) := by decide +kernel
theorem dX9_blade_70 : decode cX9_blade 70 = .ok (.aload_n 0, 1) := by decide +kernel
theorem dX9_blade_71 : decode cX9_blade 71 = .ok (.getfield 19, 3) := by decide +kernel
theorem dX9_blade_74 : decode cX9_blade 74 = .ok (.iload_n 1, 1) := by decide +kernel
theorem dX9_blade_75 : decode cX9_blade 75 = .ok (.invokevirtual 135, 3) := by decide +kernel
theorem dX9_blade_78 : decode cX9_blade 78 = .ok (.ireturn, 1) := by decide +kernel
theorem dX9_blade_79 : decode cX9_blade 79 = .ok (.aload_n 0, 1) := by decide +kernel
theorem dX9_blade_80 : decode cX9_blade 80 = .ok (.getfield 38, 3) := by decide +kernel
theorem dX9_blade_83 : decode cX9_blade 83 = .ok (.aload_n 0, 1) := by decide +kernel
theorem dX9_blade_84 : decode cX9_blade 84 = .ok (.getfield 28, 3) := by decide +kernel
theorem dX9_blade_87 : decode cX9_blade 87 = .ok (.iload_n 2, 1) := by decide +kernel
theorem dX9_blade_88 : decode cX9_blade 88 = .ok (.iconst 3, 1) := by decide +kernel
theorem dX9_blade_89 : decode cX9_blade 89 = .ok (.isub, 1) := by decide +kernel
theorem dX9_blade_90 : decode cX9_blade 90 = .ok (.invokevirtual 138, 3) := by decide +kernel
theorem dX9_blade_93 : decode cX9_blade 93 = .ok (.aload_n 0, 1) := by decide +kernel
theorem dX9_blade_94 : decode cX9_blade 94 = .ok (.getfield 38, 3) := by decide +kernel
theorem dX9_blade_97 : decode cX9_blade 97 = .ok (.iload_n 1, 1) := by decide +kernel
theorem dX9_blade_98 : decode cX9_blade 98 = .ok (.invokevirtual 142, 3) := by decide +kernel
theorem dX9_blade_101 : decode cX9_blade 101 = .ok (.ireturn, 1) := by decide +kernel
theorem dX9_blade_102 : decode cX9_blade 102 = .ok (.aload_n 0, 1) := by decide +kernel
theorem dX9_blade_103 : decode cX9_blade 103 = .ok (.getfield 19, 3) := by decide +kernel
theorem dX9_blade_106 : decode cX9_blade 106 = .ok (.iload_n 1, 1) := by decide +kernel
theorem dX9_blade_107 : decode cX9_blade 107 = .ok (.invokevirtual 145, 3) := by decide +kernel
theorem dX9_blade_110 : decode cX9_blade 110 = .ok (.ifCond .eq 14, 3) := by decide +kernel
theorem dX9_blade_113 : decode cX9_blade 113 = .ok (.aload_n 0, 1) := by decide +kernel
theorem dX9_blade_114 : decode cX9_blade 114 = .ok (.getfield 28, 3) := by decide +kernel
theorem dX9_blade_117 : decode cX9_blade 117 = .ok (.iload_n 1, 1) := by decide +kernel
theorem dX9_blade_118 : decode cX9_blade 118 = .ok (.invokevirtual 148, 3) := by decide +kernel
theorem dX9_blade_121 : decode cX9_blade 121 = .ok (.goto 5, 3) := by decide +kernel
theorem dX9_blade_124 : decode cX9_blade 124 = .ok (.bipush (-9), 2) := by decide +kernel
theorem dX9_blade_126 : decode cX9_blade 126 = .ok (.ireturn, 1) := by decide +kernel
theorem dX9_blade_127 : decode cX9_blade 127 = .ok (.bipush (-2), 2) := by decide +kernel
theorem dX9_blade_129 : decode cX9_blade 129 = .ok (.ireturn, 1) := by decide +kernel
theorem dX9_look_0 : decode cX9_look 0 = .ok (.iload_n 1, 1) := by decide +kernel
theorem dX9_look_1 : decode cX9_look 1 = .ok (.invokestatic 151, 3) := by decide +kernel
theorem dX9_look_4 : decode cX9_look 4 = .ok (.ifCond .ne 5, 3) := by decide +kernel
theorem dX9_look_7 : decode cX9_look 7 = .ok (.iconst (-1), 1) := by decide +kernel
theorem dX9_look_8 : decode cX9_look 8 = .ok (.ireturn, 1) := by decide +kernel
theorem dX9_look_9 : decode cX9_look 9 = .ok (.iload_n 2, 1) := by decide +kernel
theorem dX9_look_10 : decode cX9_look 10 = .ok (.invokestatic 154, 3) := by decide +kernel
theorem dX9_look_13 : decode cX9_look 13 = .ok (.ifCond .eq 10, 3) := by decide +kernel
theorem dX9_look_16 : decode cX9_look 16 = .ok (.iload_n 3, 1) := by decide +kernel
theorem dX9_look_17 : decode cX9_look 17 = .ok (.invokestatic 154, 3) := by decide +kernel
theorem dX9_look_20 : decode cX9_look 20 = .ok (.ifCond .ne 6, 3) := by decide +kernel
theorem dX9_look_23 : decode cX9_look 23 = .ok (.bipush (-2), 2) := by decide +kernel
theorem dX9_look_25 : decode cX9_look 25 = .ok (.ireturn, 1) := by decide +kernel
theorem dX9_look_26 : decode cX9_look 26 = .ok (.aload_n 0, 1) := by decide +kernel
theorem dX9_look_27 : decode cX9_look 27 = .ok (.getfield 38, 3) := by decide +kernel
theorem dX9_look_30 : decode cX9_look 30 = .ok (.aload_n 0, 1) := by decide +kernel
theorem dX9_look_31 : decode cX9_look 31 = .ok (.getfield 28, 3) := by decide +kernel
theorem dX9_look_34 : decode cX9_look 34 = .ok (.iload_n 2, 1) := by decide +kernel
theorem dX9_look_35 : decode cX9_look 35 = .ok (.invokevirtual 138, 3) := by decide +kernel
theorem dX9_look_38 : decode cX9_look 38 = .ok (.iload_n 3, 1) := by decide +kernel
theorem dX9_look_39 : decode cX9_look 39 = .ok (.ifCond .ne 14, 3) := by decide +kernel
theorem dX9_look_42 : decode cX9_look 42 = .ok (.aload_n 0, 1) := by decide +kernel
theorem dX9_look_43 : decode cX9_look 43 = .ok (.getfield 38, 3) := by decide +kernel
theorem dX9_look_46 : decode cX9_look 46 = .ok (.iload_n 1, 1) := by decide +kernel
theorem dX9_look_47 : decode cX9_look 47 = .ok (.invokevirtual 157, 3) := by decide +kernel
theorem dX9_look_50 : decode cX9_look 50 = .ok (.goto 11, 3) := by decide +kernel
theorem dX9_look_53 : decode cX9_look 53 = .ok (.aload_n 0, 1) := by decide +kernel
theorem dX9_look_54 : decode cX9_look 54 = .ok (.getfield 38, 3) := by decide +kernel
theorem dX9_look_57 : decode cX9_look 57 = .ok (.iload_n 1, 1) := by decide +kernel
theorem dX9_look_58 : decode cX9_look 58 = .ok (.invokevirtual 160, 3) := by decide +kernel
theorem dX9_look_61 : decode cX9_look 61 = .ok (.ireturn, 1) := by decide +kernel
theorem dX9_spread_0 : decode cX9_spread 0 = .ok (.aload_n 0, 1) := by decide +kernel
theorem dX9_spread_1 : decode cX9_spread 1 = .ok (.getfield 19, 3) := by decide +kernel
theorem dX9_spread_4 : decode cX9_spread 4 = .ok (.iload_n 1, 1) := by decide +kernel
theorem dX9_spread_5 : decode cX9_spread 5 = .ok (.invokevirtual 145, 3) := by decide +kernel
theorem dX9_spread_8 : decode cX9_spread 8 = .ok (.ifCond .ne 5, 3) := by decide +kernel
theorem dX9_spread_11 : decode cX9_spread 11 = .ok (.iconst (-1), 1) := by decide +kernel
theorem dX9_spread_12 : decode cX9_spread 12 = .ok (.ireturn, 1) := by decide +kernel
theorem dX9_spread_13 : decode cX9_spread 13 = .ok (.aload_n 0, 1) := by decide +kernel
theorem dX9_spread_14 : decode cX9_spread 14 = .ok (.getfield 28, 3) := by decide +kernel
theorem dX9_spread_17 : decode cX9_spread 17 = .ok (.iload_n 1, 1) := by decide +kernel
theorem dX9_spread_18 : decode cX9_spread 18 = .ok (.invokevirtual 163, 3) := by decide +kernel
theorem dX9_spread_21 : decode cX9_spread 21 = .ok (.ifCond .ne 6, 3) := by decide +kernel
theorem dX9_spread_24 : decode cX9_spread 24 = .ok (.bipush (-3), 2) := by decide +kernel
theorem dX9_spread_26 : decode cX9_spread 26 = .ok (.ireturn, 1) := by decide +kernel
theorem dX9_spread_27 : decode cX9_spread 27 = .ok (.aload_n 0, 1) := by decide +kernel
theorem dX9_spread_28 : decode cX9_spread 28 = .ok (.getfield 61, 3) := by decide +kernel
theorem dX9_spread_31 : decode cX9_spread 31 = .ok (.aload_n 0, 1) := by decide +kernel
theorem dX9_spread_32 : decode cX9_spread 32 = .ok (.getfield 28, 3) := by decide +kernel
theorem dX9_spread_35 : decode cX9_spread 35 = .ok (.invokevirtual 166, 3) := by decide +kernel
theorem dX9_spread_38 : decode cX9_spread 38 = .ok (.aload_n 0, 1) := by decide +kernel
theorem dX9_spread_39 : decode cX9_spread 39 = .ok (.getfield 28, 3) := by decide +kernel
theorem dX9_spread_42 : decode cX9_spread 42 = .ok (.iload_n 1, 1) := by decide +kernel
theorem dX9_spread_43 : decode cX9_spread 43 = .ok (.invokevirtual 170, 3) := by decide +kernel
theorem dX9_spread_46 : decode cX9_spread 46 = .ok (.pop, 1) := by decide +kernel
theorem dX9_spread_47 : decode cX9_spread 47 = .ok (.aload_n 0, 1) := by decide +kernel
theorem dX9_spread_48 : decode cX9_spread 48 = .ok (.getfield 28, 3) := by decide +kernel
theorem dX9_spread_51 : decode cX9_spread 51 = .ok (.iload_n 1, 1) := by decide +kernel
theorem dX9_spread_52 : decode cX9_spread 52 = .ok (.invokevirtual 148, 3) := by decide +kernel
theorem dX9_spread_55 : decode cX9_spread 55 = .ok (.ireturn, 1) := by decide +kernel
theorem dX9_fold_0 : decode cX9_fold 0 = .ok (.aload_n 0, 1) := by decide +kernel
theorem dX9_fold_1 : decode cX9_fold 1 = .ok (.getfield 19, 3) := by decide +kernel
theorem dX9_fold_4 : decode cX9_fold 4 = .ok (.iload_n 1, 1) := by decide +kernel
theorem dX9_fold_5 : decode cX9_fold 5 = .ok (.invokevirtual 145, 3) := by decide +kernel
theorem dX9_fold_8 : decode cX9_fold 8 = .ok (.ifCond .ne 5, 3) := by decide +kernel
theorem dX9_fold_11 : decode cX9_fold 11 = .ok (.iconst (-1), 1) := by decide +kernel
theorem dX9_fold_12 : decode cX9_fold 12 = .ok (.ireturn, 1) := by decide +kernel
theorem dX9_fold_13 : decode cX9_fold 13 = .ok (.aload_n 0, 1) := by decide +kernel
theorem dX9_fold_14 : decode cX9_fold 14 = .ok (.getfield 28, 3) := by decide +kernel
theorem dX9_fold_17 : decode cX9_fold 17 = .ok (.iload_n 1, 1) := by decide +kernel
theorem dX9_fold_18 : decode cX9_fold 18 = .ok (.invokevirtual 173, 3) := by decide +kernel
theorem dX9_fold_21 : decode cX9_fold 21 = .ok (.ifCond .ne 6, 3) := by decide +kernel
theorem dX9_fold_24 : decode cX9_fold 24 = .ok (.bipush (-3), 2) := by decide +kernel
theorem dX9_fold_26 : decode cX9_fold 26 = .ok (.ireturn, 1) := by decide +kernel
theorem dX9_fold_27 : decode cX9_fold 27 = .ok (.aload_n 0, 1) := by decide +kernel
theorem dX9_fold_28 : decode cX9_fold 28 = .ok (.getfield 61, 3) := by decide +kernel
theorem dX9_fold_31 : decode cX9_fold 31 = .ok (.aload_n 0, 1) := by decide +kernel
theorem dX9_fold_32 : decode cX9_fold 32 = .ok (.getfield 28, 3) := by decide +kernel
theorem dX9_fold_35 : decode cX9_fold 35 = .ok (.invokevirtual 166, 3) := by decide +kernel
theorem dX9_fold_38 : decode cX9_fold 38 = .ok (.aload_n 0, 1) := by decide +kernel
theorem dX9_fold_39 : decode cX9_fold 39 = .ok (.getfield 28, 3) := by decide +kernel
theorem dX9_fold_42 : decode cX9_fold 42 = .ok (.iload_n 1, 1) := by decide +kernel
theorem dX9_fold_43 : decode cX9_fold 43 = .ok (.invokevirtual 176, 3) := by decide +kernel
theorem dX9_fold_46 : decode cX9_fold 46 = .ok (.pop, 1) := by decide +kernel
theorem dX9_fold_47 : decode cX9_fold 47 = .ok (.aload_n 0, 1) := by decide +kernel
theorem dX9_fold_48 : decode cX9_fold 48 = .ok (.getfield 28, 3) := by decide +kernel
theorem dX9_fold_51 : decode cX9_fold 51 = .ok (.iload_n 1, 1) := by decide +kernel
theorem dX9_fold_52 : decode cX9_fold 52 = .ok (.invokevirtual 148, 3) := by decide +kernel
theorem dX9_fold_55 : decode cX9_fold 55 = .ok (.ireturn, 1) := by decide +kernel
theorem dX9_fling_0 : decode cX9_fling 0 = .ok (.aload_n 0, 1) := by decide +kernel
theorem dX9_fling_1 : decode cX9_fling 1 = .ok (.getfield 61, 3) := by decide +kernel
theorem dX9_fling_4 : decode cX9_fling 4 = .ok (.aload_n 0, 1) := by decide +kernel
theorem dX9_fling_5 : decode cX9_fling 5 = .ok (.getfield 28, 3) := by decide +kernel
theorem dX9_fling_8 : decode cX9_fling 8 = .ok (.invokevirtual 166, 3) := by decide +kernel
theorem dX9_fling_11 : decode cX9_fling 11 = .ok (.aload_n 0, 1) := by decide +kernel
theorem dX9_fling_12 : decode cX9_fling 12 = .ok (.getfield 28, 3) := by decide +kernel
theorem dX9_fling_15 : decode cX9_fling 15 = .ok (.invokevirtual 179, 3) := by decide +kernel
theorem dX9_fling_18 : decode cX9_fling 18 = .ok (.ireturn, 1) := by decide +kernel
theorem dX9_snap_0 : decode cX9_snap 0 = .ok (.aload_n 0, 1) := by decide +kernel
theorem dX9_snap_1 : decode cX9_snap 1 = .ok (.getfield 61, 3) := by decide +kernel
theorem dX9_snap_4 : decode cX9_snap 4 = .ok (.aload_n 0, 1) := by decide +kernel
theorem dX9_snap_5 : decode cX9_snap 5 = .ok (.getfield 28, 3) := by decide +kernel
theorem dX9_snap_8 : decode cX9_snap 8 = .ok (.invokevirtual 166, 3) := by decide +kernel
theorem dX9_snap_11 : decode cX9_snap 11 = .ok (.aload_n 0, 1) := by decide +kernel
theorem dX9_snap_12 : decode cX9_snap 12 = .ok (.getfield 28, 3) := by decide +kernel
theorem dX9_snap_15 : decode cX9_snap 15 = .ok (.invokevirtual 182, 3) := by decide +kernel
theorem dX9_snap_18 : decode cX9_snap 18 = .ok (.istore_n 1, 1) := by decide +kernel
theorem dX9_snap_19 : decode cX9_snap 19 = .ok (.aload_n 0, 1) := by decide +kernel
theorem dX9_snap_20 : decode cX9_snap 20 = .ok (.getfield 28, 3) := by decide +kernel
theorem dX9_snap_23 : decode cX9_snap 23 = .ok (.invokevirtual 107, 3) := by decide +kernel
theorem dX9_snap_26 : decode cX9_snap 26 = .ok (.iload_n 1, 1) := by decide +kernel
theorem dX9_snap_27 : decode cX9_snap 27 = .ok (.ireturn, 1) := by decide +kernel
theorem dX9_undo_0 : decode cX9_undo 0 = .ok (.aload_n 0, 1) := by decide +kernel
theorem dX9_undo_1 : decode cX9_undo 1 = .ok (.getfield 61, 3) := by decide +kernel
theorem dX9_undo_4 : decode cX9_undo 4 = .ok (.aload_n 0, 1) := by decide +kernel
theorem dX9_undo_5 : decode cX9_undo 5 = .ok (.getfield 28, 3) := by decide +kernel
theorem dX9_undo_8 : decode cX9_undo 8 = .ok (.invokevirtual 185, 3) := by decide +kernel
theorem dX9_undo_11 : decode cX9_undo 11 = .ok (.ifCond .eq 13, 3) := by decide +kernel
theorem dX9_undo_14 : decode cX9_undo 14 = .ok (.aload_n 0, 1) := by decide +kernel
theorem dX9_undo_15 : decode cX9_undo 15 = .ok (.getfield 61, 3) := by decide +kernel
theorem dX9_undo_18 : decode cX9_undo 18 = .ok (.invokevirtual 189, 3) := by decide +kernel
theorem dX9_undo_21 : decode cX9_undo 21 = .ok (.goto 5, 3) := by decide +kernel
theorem dX9_undo_24 : decode cX9_undo 24 = .ok (.bipush (-3), 2) := by decide +kernel
theorem dX9_undo_26 : decode cX9_undo 26 = .ok (.ireturn, 1) := by decide +kernel
theorem dX9_reads_0 : decode cX9_reads 0 = .ok (.iload_n 1, 1) := by decide +kernel
theorem dX9_reads_1 : decode cX9_reads 1 = .ok (.invokestatic 154, 3) := by decide +kernel
theorem dX9_reads_4 : decode cX9_reads 4 = .ok (.ifCond .ne 6, 3) := by decide +kernel
theorem dX9_reads_7 : decode cX9_reads 7 = .ok (.bipush (-2), 2) := by decide +kernel
theorem dX9_reads_9 : decode cX9_reads 9 = .ok (.ireturn, 1) := by decide +kernel
theorem dX9_reads_10 : decode cX9_reads 10 = .ok (.aload_n 0, 1) := by decide +kernel
theorem dX9_reads_11 : decode cX9_reads 11 = .ok (.getfield 38, 3) := by decide +kernel
theorem dX9_reads_14 : decode cX9_reads 14 = .ok (.aload_n 0, 1) := by decide +kernel
theorem dX9_reads_15 : decode cX9_reads 15 = .ok (.getfield 28, 3) := by decide +kernel
theorem dX9_reads_18 : decode cX9_reads 18 = .ok (.iload_n 1, 1) := by decide +kernel
theorem dX9_reads_19 : decode cX9_reads 19 = .ok (.invokevirtual 138, 3) := by decide +kernel
theorem dX9_reads_22 : decode cX9_reads 22 = .ok (.aload_n 0, 1) := by decide +kernel
theorem dX9_reads_23 : decode cX9_reads 23 = .ok (.getfield 54, 3) := by decide +kernel
theorem dX9_reads_26 : decode cX9_reads 26 = .ok (.aload_n 0, 1) := by decide +kernel
theorem dX9_reads_27 : decode cX9_reads 27 = .ok (.getfield 38, 3) := by decide +kernel
theorem dX9_reads_30 : decode cX9_reads 30 = .ok (.invokevirtual 190, 3) := by decide +kernel
theorem dX9_reads_33 : decode cX9_reads 33 = .ok (.ireturn, 1) := by decide +kernel
theorem dX9_open_0 : decode cX9_open 0 = .ok (.iload_n 1, 1) := by decide +kernel
theorem dX9_open_1 : decode cX9_open 1 = .ok (.invokestatic 154, 3) := by decide +kernel
theorem dX9_open_4 : decode cX9_open 4 = .ok (.ifCond .eq 10, 3) := by decide +kernel
theorem dX9_open_7 : decode cX9_open 7 = .ok (.iload_n 2, 1) := by decide +kernel
theorem dX9_open_8 : decode cX9_open 8 = .ok (.invokestatic 154, 3) := by decide +kernel
theorem dX9_open_11 : decode cX9_open 11 = .ok (.ifCond .ne 6, 3) := by decide +kernel
theorem dX9_open_14 : decode cX9_open 14 = .ok (.bipush (-2), 2) := by decide +kernel
theorem dX9_open_16 : decode cX9_open 16 = .ok (.ireturn, 1) := by decide +kernel
theorem dX9_open_17 : decode cX9_open 17 = .ok (.bipush (-9), 2) := by decide +kernel
theorem dX9_open_19 : decode cX9_open 19 = .ok (.istore_n 3, 1) := by decide +kernel
theorem dX9_open_20 : decode cX9_open 20 = .ok (.bipush (-9), 2) := by decide +kernel
theorem dX9_open_22 : decode cX9_open 22 = .ok (.istore 4, 2) := by decide +kernel
theorem dX9_open_24 : decode cX9_open 24 = .ok (.iconst 1, 1) := by decide +kernel
theorem dX9_open_25 : decode cX9_open 25 = .ok (.istore 5, 2) := by decide +kernel
theorem dX9_open_27 : decode cX9_open 27 = .ok (.aload_n 0, 1) := by decide +kernel
theorem dX9_open_28 : decode cX9_open 28 = .ok (.getfield 47, 3) := by decide +kernel
theorem dX9_open_31 : decode cX9_open 31 = .ok (.iload_n 1, 1) := by decide +kernel
theorem dX9_open_32 : decode cX9_open 32 = .ok (.invokevirtual 194, 3) := by decide +kernel
theorem dX9_open_35 : decode cX9_open 35 = .ok (.iconst 0, 1) := by decide +kernel
theorem dX9_open_36 : decode cX9_open 36 = .ok (.istore 6, 2) := by decide +kernel
theorem dX9_open_38 : decode cX9_open 38 = .ok (.iload 5, 2) := by decide +kernel
theorem dX9_open_40 : decode cX9_open 40 = .ok (.ifCond .eq 77, 3) := by decide +kernel
theorem dX9_open_43 : decode cX9_open 43 = .ok (.iload 6, 2) := by decide +kernel
theorem dX9_open_45 : decode cX9_open 45 = .ok (.sipush 3125, 3) := by decide +kernel
theorem dX9_open_48 : decode cX9_open 48 = .ok (.if_icmp .ge 69, 3) := by decide +kernel
theorem dX9_open_51 : decode cX9_open 51 = .ok (.aload_n 0, 1) := by decide +kernel
theorem dX9_open_52 : decode cX9_open 52 = .ok (.getfield 32, 3) := by decide +kernel
theorem dX9_open_55 : decode cX9_open 55 = .ok (.aload_n 0, 1) := by decide +kernel
theorem dX9_open_56 : decode cX9_open 56 = .ok (.getfield 28, 3) := by decide +kernel
theorem dX9_open_59 : decode cX9_open 59 = .ok (.invokevirtual 198, 3) := by decide +kernel
theorem dX9_open_62 : decode cX9_open 62 = .ok (.istore 7, 2) := by decide +kernel
theorem dX9_open_64 : decode cX9_open 64 = .ok (.iload_n 3, 1) := by decide +kernel
theorem dX9_open_65 : decode cX9_open 65 = .ok (.bipush (-9), 2) := by decide +kernel
theorem dX9_open_67 : decode cX9_open 67 = .ok (.if_icmp .eq 9, 3) := by decide +kernel
theorem dX9_open_70 : decode cX9_open 70 = .ok (.iload 7, 2) := by decide +kernel
theorem dX9_open_72 : decode cX9_open 72 = .ok (.iload_n 3, 1) := by decide +kernel
theorem dX9_open_73 : decode cX9_open 73 = .ok (.if_icmp .ge 29, 3) := by decide +kernel
theorem dX9_open_76 : decode cX9_open 76 = .ok (.aload_n 0, 1) := by decide +kernel
theorem dX9_open_77 : decode cX9_open 77 = .ok (.getfield 54, 3) := by decide +kernel
theorem dX9_open_80 : decode cX9_open 80 = .ok (.aload_n 0, 1) := by decide +kernel
theorem dX9_open_81 : decode cX9_open 81 = .ok (.getfield 38, 3) := by decide +kernel
theorem dX9_open_84 : decode cX9_open 84 = .ok (.invokevirtual 202, 3) := by decide +kernel
theorem dX9_open_87 : decode cX9_open 87 = .ok (.ifCond .eq 15, 3) := by decide +kernel
theorem dX9_open_90 : decode cX9_open 90 = .ok (.iload 7, 2) := by decide +kernel
theorem dX9_open_92 : decode cX9_open 92 = .ok (.istore_n 3, 1) := by decide +kernel
theorem dX9_open_93 : decode cX9_open 93 = .ok (.aload_n 0, 1) := by decide +kernel
theorem dX9_open_94 : decode cX9_open 94 = .ok (.getfield 32, 3) := by decide +kernel
theorem dX9_open_97 : decode cX9_open 97 = .ok (.invokevirtual 206, 3) := by decide +kernel
theorem dX9_open_100 : decode cX9_open 100 = .ok (.istore 4, 2) := by decide +kernel
theorem dX9_open_102 : decode cX9_open 102 = .ok (.aload_n 0, 1) := by decide +kernel
theorem dX9_open_103 : decode cX9_open 103 = .ok (.getfield 47, 3) := by decide +kernel
theorem dX9_open_106 : decode cX9_open 106 = .ok (.invokevirtual 209, 3) := by decide +kernel
theorem dX9_open_109 : decode cX9_open 109 = .ok (.istore 5, 2) := by decide +kernel
theorem dX9_open_111 : decode cX9_open 111 = .ok (.iinc 6 1, 3) := by decide +kernel
theorem dX9_open_114 : decode cX9_open 114 = .ok (.goto (-76), 3) := by decide +kernel
theorem dX9_open_117 : decode cX9_open 117 = .ok (.iload_n 2, 1) := by decide +kernel
theorem dX9_open_118 : decode cX9_open 118 = .ok (.ifCond .ne 7, 3) := by decide +kernel
theorem dX9_open_121 : decode cX9_open 121 = .ok (.iload_n 3, 1) := by decide +kernel
theorem dX9_open_122 : decode cX9_open 122 = .ok (.goto 5, 3) := by decide +kernel
theorem dX9_open_125 : decode cX9_open 125 = .ok (.iload 4, 2) := by decide +kernel
theorem dX9_open_127 : decode cX9_open 127 = .ok (.ireturn, 1) := by decide +kernel
theorem dX9_most_0 : decode cX9_most 0 = .ok (.iload_n 1, 1) := by decide +kernel
theorem dX9_most_1 : decode cX9_most 1 = .ok (.invokestatic 213, 3) := by decide +kernel
theorem dX9_most_4 : decode cX9_most 4 = .ok (.ifCond .eq 10, 3) := by decide +kernel
theorem dX9_most_7 : decode cX9_most 7 = .ok (.iload_n 2, 1) := by decide +kernel
theorem dX9_most_8 : decode cX9_most 8 = .ok (.invokestatic 154, 3) := by decide +kernel
theorem dX9_most_11 : decode cX9_most 11 = .ok (.ifCond .ne 6, 3) := by decide +kernel
theorem dX9_most_14 : decode cX9_most 14 = .ok (.bipush (-2), 2) := by decide +kernel
theorem dX9_most_16 : decode cX9_most 16 = .ok (.ireturn, 1) := by decide +kernel
theorem dX9_most_17 : decode cX9_most 17 = .ok (.bipush (-9), 2) := by decide +kernel
theorem dX9_most_19 : decode cX9_most 19 = .ok (.istore_n 3, 1) := by decide +kernel
theorem dX9_most_20 : decode cX9_most 20 = .ok (.bipush (-9), 2) := by decide +kernel
theorem dX9_most_22 : decode cX9_most 22 = .ok (.istore 4, 2) := by decide +kernel
theorem dX9_most_24 : decode cX9_most 24 = .ok (.iconst 1, 1) := by decide +kernel
theorem dX9_most_25 : decode cX9_most 25 = .ok (.istore 5, 2) := by decide +kernel
theorem dX9_most_27 : decode cX9_most 27 = .ok (.aload_n 0, 1) := by decide +kernel
theorem dX9_most_28 : decode cX9_most 28 = .ok (.getfield 47, 3) := by decide +kernel
theorem dX9_most_31 : decode cX9_most 31 = .ok (.iconst 0, 1) := by decide +kernel
theorem dX9_most_32 : decode cX9_most 32 = .ok (.invokevirtual 194, 3) := by decide +kernel
theorem dX9_most_35 : decode cX9_most 35 = .ok (.iconst 0, 1) := by decide +kernel
theorem dX9_most_36 : decode cX9_most 36 = .ok (.istore 6, 2) := by decide +kernel
theorem dX9_most_38 : decode cX9_most 38 = .ok (.iload 5, 2) := by decide +kernel
theorem dX9_most_40 : decode cX9_most 40 = .ok (.ifCond .eq 54, 3) := by decide +kernel
theorem dX9_most_43 : decode cX9_most 43 = .ok (.iload 6, 2) := by decide +kernel
theorem dX9_most_45 : decode cX9_most 45 = .ok (.sipush 3125, 3) := by decide +kernel
theorem dX9_most_48 : decode cX9_most 48 = .ok (.if_icmp .ge 46, 3) := by decide +kernel
theorem dX9_most_51 : decode cX9_most 51 = .ok (.aload_n 0, 1) := by decide +kernel
theorem dX9_most_52 : decode cX9_most 52 = .ok (.getfield 38, 3) := by decide +kernel
theorem dX9_most_55 : decode cX9_most 55 = .ok (.iload_n 1, 1) := by decide +kernel
theorem dX9_most_56 : decode cX9_most 56 = .ok (.invokevirtual 216, 3) := by decide +kernel
theorem dX9_most_59 : decode cX9_most 59 = .ok (.istore 7, 2) := by decide +kernel
theorem dX9_most_61 : decode cX9_most 61 = .ok (.iload 7, 2) := by decide +kernel
theorem dX9_most_63 : decode cX9_most 63 = .ok (.iload_n 3, 1) := by decide +kernel
theorem dX9_most_64 : decode cX9_most 64 = .ok (.if_icmp .le 15, 3) := by decide +kernel
theorem dX9_most_67 : decode cX9_most 67 = .ok (.iload 7, 2) := by decide +kernel
theorem dX9_most_69 : decode cX9_most 69 = .ok (.istore_n 3, 1) := by decide +kernel
theorem dX9_most_70 : decode cX9_most 70 = .ok (.aload_n 0, 1) := by decide +kernel
theorem dX9_most_71 : decode cX9_most 71 = .ok (.getfield 32, 3) := by decide +kernel
theorem dX9_most_74 : decode cX9_most 74 = .ok (.invokevirtual 206, 3) := by decide +kernel
theorem dX9_most_77 : decode cX9_most 77 = .ok (.istore 4, 2) := by decide +kernel
theorem dX9_most_79 : decode cX9_most 79 = .ok (.aload_n 0, 1) := by decide +kernel
theorem dX9_most_80 : decode cX9_most 80 = .ok (.getfield 47, 3) := by decide +kernel
theorem dX9_most_83 : decode cX9_most 83 = .ok (.invokevirtual 209, 3) := by decide +kernel
theorem dX9_most_86 : decode cX9_most 86 = .ok (.istore 5, 2) := by decide +kernel
theorem dX9_most_88 : decode cX9_most 88 = .ok (.iinc 6 1, 3) := by decide +kernel
theorem dX9_most_91 : decode cX9_most 91 = .ok (.goto (-53), 3) := by decide +kernel
theorem dX9_most_94 : decode cX9_most 94 = .ok (.iload_n 2, 1) := by decide +kernel
theorem dX9_most_95 : decode cX9_most 95 = .ok (.ifCond .ne 7, 3) := by decide +kernel
theorem dX9_most_98 : decode cX9_most 98 = .ok (.iload_n 3, 1) := by decide +kernel
theorem dX9_most_99 : decode cX9_most 99 = .ok (.goto 5, 3) := by decide +kernel
theorem dX9_most_102 : decode cX9_most 102 = .ok (.iload 4, 2) := by decide +kernel
theorem dX9_most_104 : decode cX9_most 104 = .ok (.ireturn, 1) := by decide +kernel
theorem dX9_judge_0 : decode cX9_judge 0 = .ok (.iload_n 1, 1) := by decide +kernel
theorem dX9_judge_1 : decode cX9_judge 1 = .ok (.iconst 1, 1) := by decide +kernel
theorem dX9_judge_2 : decode cX9_judge 2 = .ok (.if_icmp .lt 18, 3) := by decide +kernel
theorem dX9_judge_5 : decode cX9_judge 5 = .ok (.iload_n 1, 1) := by decide +kernel
theorem dX9_judge_6 : decode cX9_judge 6 = .ok (.iconst 4, 1) := by decide +kernel
theorem dX9_judge_7 : decode cX9_judge 7 = .ok (.if_icmp .gt 13, 3) := by decide +kernel
theorem dX9_judge_10 : decode cX9_judge 10 = .ok (.lload_n 2, 1) := by decide +kernel
theorem dX9_judge_11 : decode cX9_judge 11 = .ok (.iconst 3, 1) := by decide +kernel
theorem dX9_judge_12 : decode cX9_judge 12 = .ok (.iload_n 1, 1) := by decide +kernel
theorem dX9_judge_13 : decode cX9_judge 13 = .ok (.imul, 1) := by decide +kernel
theorem dX9_judge_14 : decode cX9_judge 14 = .ok (.invokestatic 113, 3) := by decide +kernel
theorem dX9_judge_17 : decode cX9_judge 17 = .ok (.ifCond .ne 6, 3) := by decide +kernel
theorem dX9_judge_20 : decode cX9_judge 20 = .ok (.bipush (-2), 2) := by decide +kernel
theorem dX9_judge_22 : decode cX9_judge 22 = .ok (.ireturn, 1) := by decide +kernel
theorem dX9_judge_23 : decode cX9_judge 23 = .ok (.lload_n 2, 1) := by decide +kernel
theorem dX9_judge_24 : decode cX9_judge 24 = .ok (.lstore 4, 2) := by decide +kernel
theorem dX9_judge_26 : decode cX9_judge 26 = .ok (.iload_n 1, 1) := by decide +kernel
theorem dX9_judge_27 : decode cX9_judge 27 = .ok (.iconst 1, 1) := by decide +kernel
theorem dX9_judge_28 : decode cX9_judge 28 = .ok (.isub, 1) := by decide +kernel
theorem dX9_judge_29 : decode cX9_judge 29 = .ok (.istore 6, 2) := by decide +kernel
theorem dX9_judge_31 : decode cX9_judge 31 = .ok (.iload 6, 2) := by decide +kernel
theorem dX9_judge_33 : decode cX9_judge 33 = .ok (.ifCond .lt 31, 3) := by decide +kernel
theorem dX9_judge_36 : decode cX9_judge 36 = .ok (.aload_n 0, 1) := by decide +kernel
theorem dX9_judge_37 : decode cX9_judge 37 = .ok (.getfield 86, 3) := by decide +kernel
theorem dX9_judge_40 : decode cX9_judge 40 = .ok (.iload 6, 2) := by decide +kernel
theorem dX9_judge_42 : decode cX9_judge 42 = .ok (.lload 4, 2) := by decide +kernel
theorem dX9_judge_44 : decode cX9_judge 44 = .ok (.ldc2_w 219, 3) := by decide +kernel
theorem dX9_judge_47 : decode cX9_judge 47 = .ok (.lrem, 1) := by decide +kernel
theorem dX9_judge_48 : decode cX9_judge 48 = .ok (.l2i, 1) := by decide +kernel
theorem dX9_judge_49 : decode cX9_judge 49 = .ok (.iastore, 1) := by decide +kernel
theorem dX9_judge_50 : decode cX9_judge 50 = .ok (.lload 4, 2) := by decide +kernel
theorem dX9_judge_52 : decode cX9_judge 52 = .ok (.ldc2_w 219, 3) := by decide +kernel
theorem dX9_judge_55 : decode cX9_judge 55 = .ok (.ldiv, 1) := by decide +kernel
theorem dX9_judge_56 : decode cX9_judge 56 = .ok (.lstore 4, 2) := by decide +kernel
theorem dX9_judge_58 : decode cX9_judge 58 = .ok (.iinc 6 (-1), 3) := by decide +kernel
theorem dX9_judge_61 : decode cX9_judge 61 = .ok (.goto (-30), 3) := by decide +kernel
theorem dX9_judge_64 : decode cX9_judge 64 = .ok (.aload_n 0, 1) := by decide +kernel
theorem dX9_judge_65 : decode cX9_judge 65 = .ok (.getfield 32, 3) := by decide +kernel
theorem dX9_judge_68 : decode cX9_judge 68 = .ok (.aload_n 0, 1) := by decide +kernel
theorem dX9_judge_69 : decode cX9_judge 69 = .ok (.getfield 28, 3) := by decide +kernel
theorem dX9_judge_72 : decode cX9_judge 72 = .ok (.invokevirtual 221, 3) := by decide +kernel
theorem dX9_judge_75 : decode cX9_judge 75 = .ok (.iconst 0, 1) := by decide +kernel
theorem dX9_judge_76 : decode cX9_judge 76 = .ok (.istore 6, 2) := by decide +kernel
theorem dX9_judge_78 : decode cX9_judge 78 = .ok (.iload 6, 2) := by decide +kernel
theorem dX9_judge_80 : decode cX9_judge 80 = .ok (.iload_n 1, 1) := by decide +kernel
theorem dX9_judge_81 : decode cX9_judge 81 = .ok (.if_icmp .ge 46, 3) := by decide +kernel
theorem dX9_judge_84 : decode cX9_judge 84 = .ok (.aload_n 0, 1) := by decide +kernel
theorem dX9_judge_85 : decode cX9_judge 85 = .ok (.getfield 86, 3) := by decide +kernel
theorem dX9_judge_88 : decode cX9_judge 88 = .ok (.iload 6, 2) := by decide +kernel
theorem dX9_judge_90 : decode cX9_judge 90 = .ok (.iaload, 1) := by decide +kernel
theorem dX9_judge_91 : decode cX9_judge 91 = .ok (.istore 7, 2) := by decide +kernel
theorem dX9_judge_93 : decode cX9_judge 93 = .ok (.aload_n 0, 1) := by decide +kernel
theorem dX9_judge_94 : decode cX9_judge 94 = .ok (.iload 7, 2) := by decide +kernel
theorem dX9_judge_96 : decode cX9_judge 96 = .ok (.bipush 100, 2) := by decide +kernel
theorem dX9_judge_98 : decode cX9_judge 98 = .ok (.idiv, 1) := by decide +kernel
theorem dX9_judge_99 : decode cX9_judge 99 = .ok (.iload 7, 2) := by decide +kernel
theorem dX9_judge_101 : decode cX9_judge 101 = .ok (.bipush 10, 2) := by decide +kernel
theorem dX9_judge_103 : decode cX9_judge 103 = .ok (.idiv, 1) := by decide +kernel
theorem dX9_judge_104 : decode cX9_judge 104 = .ok (.bipush 10, 2) := by decide +kernel
theorem dX9_judge_106 : decode cX9_judge 106 = .ok (.irem, 1) := by decide +kernel
theorem dX9_judge_107 : decode cX9_judge 107 = .ok (.iload 7, 2) := by decide +kernel
theorem dX9_judge_109 : decode cX9_judge 109 = .ok (.bipush 10, 2) := by decide +kernel
theorem dX9_judge_111 : decode cX9_judge 111 = .ok (.irem, 1) := by decide +kernel
theorem dX9_judge_112 : decode cX9_judge 112 = .ok (.invokevirtual 224, 3) := by decide +kernel
theorem dX9_judge_115 : decode cX9_judge 115 = .ok (.ifCond .ne 6, 3) := by decide +kernel
theorem dX9_judge_118 : decode cX9_judge 118 = .ok (.iload 6, 2) := by decide +kernel
theorem dX9_judge_120 : decode cX9_judge 120 = .ok (.ireturn, 1) := by decide +kernel
theorem dX9_judge_121 : decode cX9_judge 121 = .ok (.iinc 6 1, 3) := by decide +kernel
theorem dX9_judge_124 : decode cX9_judge 124 = .ok (.goto (-46), 3) := by decide +kernel
theorem dX9_judge_127 : decode cX9_judge 127 = .ok (.bipush (-9), 2) := by decide +kernel
theorem dX9_judge_129 : decode cX9_judge 129 = .ok (.ireturn, 1) := by decide +kernel
theorem dX9_spy_0 : decode cX9_spy 0 = .ok (.iload_n 1, 1) := by decide +kernel
theorem dX9_spy_1 : decode cX9_spy 1 = .ok (.invokestatic 151, 3) := by decide +kernel
theorem dX9_spy_4 : decode cX9_spy 4 = .ok (.ifCond .ne 5, 3) := by decide +kernel
theorem dX9_spy_7 : decode cX9_spy 7 = .ok (.iconst (-1), 1) := by decide +kernel
theorem dX9_spy_8 : decode cX9_spy 8 = .ok (.ireturn, 1) := by decide +kernel
theorem dX9_spy_9 : decode cX9_spy 9 = .ok (.iload_n 2, 1) := by decide +kernel
theorem dX9_spy_10 : decode cX9_spy 10 = .ok (.invokestatic 213, 3) := by decide +kernel
theorem dX9_spy_13 : decode cX9_spy 13 = .ok (.ifCond .eq 10, 3) := by decide +kernel
theorem dX9_spy_16 : decode cX9_spy 16 = .ok (.iload_n 3, 1) := by decide +kernel
theorem dX9_spy_17 : decode cX9_spy 17 = .ok (.invokestatic 154, 3) := by decide +kernel
theorem dX9_spy_20 : decode cX9_spy 20 = .ok (.ifCond .ne 6, 3) := by decide +kernel
theorem dX9_spy_23 : decode cX9_spy 23 = .ok (.bipush (-2), 2) := by decide +kernel
theorem dX9_spy_25 : decode cX9_spy 25 = .ok (.ireturn, 1) := by decide +kernel
theorem dX9_spy_26 : decode cX9_spy 26 = .ok (.aload_n 0, 1) := by decide +kernel
theorem dX9_spy_27 : decode cX9_spy 27 = .ok (.getfield 75, 3) := by decide +kernel
theorem dX9_spy_30 : decode cX9_spy 30 = .ok (.iload_n 1, 1) := by decide +kernel
theorem dX9_spy_31 : decode cX9_spy 31 = .ok (.iload_n 2, 1) := by decide +kernel
theorem dX9_spy_32 : decode cX9_spy 32 = .ok (.iload_n 3, 1) := by decide +kernel
theorem dX9_spy_33 : decode cX9_spy 33 = .ok (.iconst 1, 1) := by decide +kernel
theorem dX9_spy_34 : decode cX9_spy 34 = .ok (.if_icmp .ne 7, 3) := by decide +kernel
theorem dX9_spy_37 : decode cX9_spy 37 = .ok (.iconst 1, 1) := by decide +kernel
theorem dX9_spy_38 : decode cX9_spy 38 = .ok (.goto 4, 3) := by decide +kernel
theorem dX9_spy_41 : decode cX9_spy 41 = .ok (.iconst 0, 1) := by decide +kernel
theorem dX9_spy_42 : decode cX9_spy 42 = .ok (.invokevirtual 228, 3) := by decide +kernel
theorem dX9_spy_45 : decode cX9_spy 45 = .ok (.ifCond .eq 13, 3) := by decide +kernel
theorem dX9_spy_48 : decode cX9_spy 48 = .ok (.aload_n 0, 1) := by decide +kernel
theorem dX9_spy_49 : decode cX9_spy 49 = .ok (.getfield 75, 3) := by decide +kernel
theorem dX9_spy_52 : decode cX9_spy 52 = .ok (.invokevirtual 232, 3) := by decide +kernel
theorem dX9_spy_55 : decode cX9_spy 55 = .ok (.goto 5, 3) := by decide +kernel
theorem dX9_spy_58 : decode cX9_spy 58 = .ok (.bipush (-4), 2) := by decide +kernel
theorem dX9_spy_60 : decode cX9_spy 60 = .ok (.ireturn, 1) := by decide +kernel
theorem dX9_unspy_0 : decode cX9_unspy 0 = .ok (.aload_n 0, 1) := by decide +kernel
theorem dX9_unspy_1 : decode cX9_unspy 1 = .ok (.getfield 75, 3) := by decide +kernel
theorem dX9_unspy_4 : decode cX9_unspy 4 = .ok (.invokevirtual 232, 3) := by decide +kernel
theorem dX9_unspy_7 : decode cX9_unspy 7 = .ok (.istore_n 1, 1) := by decide +kernel
theorem dX9_unspy_8 : decode cX9_unspy 8 = .ok (.aload_n 0, 1) := by decide +kernel
theorem dX9_unspy_9 : decode cX9_unspy 9 = .ok (.getfield 75, 3) := by decide +kernel
theorem dX9_unspy_12 : decode cX9_unspy 12 = .ok (.invokevirtual 233, 3) := by decide +kernel
theorem dX9_unspy_15 : decode cX9_unspy 15 = .ok (.iload_n 1, 1) := by decide +kernel
theorem dX9_unspy_16 : decode cX9_unspy 16 = .ok (.ireturn, 1) := by decide +kernel
theorem dX9_gaps_0 : decode cX9_gaps 0 = .ok (.iload_n 1, 1) := by decide +kernel
theorem dX9_gaps_1 : decode cX9_gaps 1 = .ok (.invokestatic 154, 3) := by decide +kernel
theorem dX9_gaps_4 : decode cX9_gaps 4 = .ok (.ifCond .ne 6, 3) := by decide +kernel
theorem dX9_gaps_7 : decode cX9_gaps 7 = .ok (.bipush (-2), 2) := by decide +kernel
theorem dX9_gaps_9 : decode cX9_gaps 9 = .ok (.ireturn, 1) := by decide +kernel
theorem dX9_gaps_10 : decode cX9_gaps 10 = .ok (.iconst 0, 1) := by decide +kernel
theorem dX9_gaps_11 : decode cX9_gaps 11 = .ok (.istore_n 2, 1) := by decide +kernel
theorem dX9_gaps_12 : decode cX9_gaps 12 = .ok (.bipush (-9), 2) := by decide +kernel
theorem dX9_gaps_14 : decode cX9_gaps 14 = .ok (.istore_n 3, 1) := by decide +kernel
theorem dX9_gaps_15 : decode cX9_gaps 15 = .ok (.iconst 1, 1) := by decide +kernel
theorem dX9_gaps_16 : decode cX9_gaps 16 = .ok (.istore 4, 2) := by decide +kernel
theorem dX9_gaps_18 : decode cX9_gaps 18 = .ok (.aload_n 0, 1) := by decide +kernel
theorem dX9_gaps_19 : decode cX9_gaps 19 = .ok (.getfield 47, 3) := by decide +kernel
theorem dX9_gaps_22 : decode cX9_gaps 22 = .ok (.iconst 0, 1) := by decide +kernel
theorem dX9_gaps_23 : decode cX9_gaps 23 = .ok (.invokevirtual 194, 3) := by decide +kernel
theorem dX9_gaps_26 : decode cX9_gaps 26 = .ok (.iconst 0, 1) := by decide +kernel
theorem dX9_gaps_27 : decode cX9_gaps 27 = .ok (.istore 5, 2) := by decide +kernel
theorem dX9_gaps_29 : decode cX9_gaps 29 = .ok (.iload 4, 2) := by decide +kernel
theorem dX9_gaps_31 : decode cX9_gaps 31 = .ok (.ifCond .eq 57, 3) := by decide +kernel
theorem dX9_gaps_34 : decode cX9_gaps 34 = .ok (.iload 5, 2) := by decide +kernel
theorem dX9_gaps_36 : decode cX9_gaps 36 = .ok (.sipush 3125, 3) := by decide +kernel
theorem dX9_gaps_39 : decode cX9_gaps 39 = .ok (.if_icmp .ge 49, 3) := by decide +kernel
theorem dX9_gaps_42 : decode cX9_gaps 42 = .ok (.aload_n 0, 1) := by decide +kernel
theorem dX9_gaps_43 : decode cX9_gaps 43 = .ok (.getfield 75, 3) := by decide +kernel
theorem dX9_gaps_46 : decode cX9_gaps 46 = .ok (.aload_n 0, 1) := by decide +kernel
theorem dX9_gaps_47 : decode cX9_gaps 47 = .ok (.getfield 38, 3) := by decide +kernel
theorem dX9_gaps_50 : decode cX9_gaps 50 = .ok (.invokevirtual 234, 3) := by decide +kernel
theorem dX9_gaps_53 : decode cX9_gaps 53 = .ok (.ifCond .eq 20, 3) := by decide +kernel
theorem dX9_gaps_56 : decode cX9_gaps 56 = .ok (.iinc 2 1, 3) := by decide +kernel
theorem dX9_gaps_59 : decode cX9_gaps 59 = .ok (.iload_n 3, 1) := by decide +kernel
theorem dX9_gaps_60 : decode cX9_gaps 60 = .ok (.bipush (-9), 2) := by decide +kernel
theorem dX9_gaps_62 : decode cX9_gaps 62 = .ok (.if_icmp .ne 11, 3) := by decide +kernel
theorem dX9_gaps_65 : decode cX9_gaps 65 = .ok (.aload_n 0, 1) := by decide +kernel
theorem dX9_gaps_66 : decode cX9_gaps 66 = .ok (.getfield 32, 3) := by decide +kernel
theorem dX9_gaps_69 : decode cX9_gaps 69 = .ok (.invokevirtual 206, 3) := by decide +kernel
theorem dX9_gaps_72 : decode cX9_gaps 72 = .ok (.istore_n 3, 1) := by decide +kernel
theorem dX9_gaps_73 : decode cX9_gaps 73 = .ok (.aload_n 0, 1) := by decide +kernel
theorem dX9_gaps_74 : decode cX9_gaps 74 = .ok (.getfield 47, 3) := by decide +kernel
theorem dX9_gaps_77 : decode cX9_gaps 77 = .ok (.invokevirtual 209, 3) := by decide +kernel
theorem dX9_gaps_80 : decode cX9_gaps 80 = .ok (.istore 4, 2) := by decide +kernel
theorem dX9_gaps_82 : decode cX9_gaps 82 = .ok (.iinc 5 1, 3) := by decide +kernel
theorem dX9_gaps_85 : decode cX9_gaps 85 = .ok (.goto (-56), 3) := by decide +kernel
theorem dX9_gaps_88 : decode cX9_gaps 88 = .ok (.iload_n 1, 1) := by decide +kernel
theorem dX9_gaps_89 : decode cX9_gaps 89 = .ok (.ifCond .ne 7, 3) := by decide +kernel
theorem dX9_gaps_92 : decode cX9_gaps 92 = .ok (.iload_n 2, 1) := by decide +kernel
theorem dX9_gaps_93 : decode cX9_gaps 93 = .ok (.goto 4, 3) := by decide +kernel
theorem dX9_gaps_96 : decode cX9_gaps 96 = .ok (.iload_n 3, 1) := by decide +kernel
theorem dX9_gaps_97 : decode cX9_gaps 97 = .ok (.ireturn, 1) := by decide +kernel
theorem dX9_share_0 : decode cX9_share 0 = .ok (.aload_n 0, 1) := by decide +kernel
theorem dX9_share_1 : decode cX9_share 1 = .ok (.getfield 19, 3) := by decide +kernel
theorem dX9_share_4 : decode cX9_share 4 = .ok (.iload_n 1, 1) := by decide +kernel
theorem dX9_share_5 : decode cX9_share 5 = .ok (.invokevirtual 125, 3) := by decide +kernel
theorem dX9_share_8 : decode cX9_share 8 = .ok (.ifCond .ne 5, 3) := by decide +kernel
theorem dX9_share_11 : decode cX9_share 11 = .ok (.iconst (-1), 1) := by decide +kernel
theorem dX9_share_12 : decode cX9_share 12 = .ok (.ireturn, 1) := by decide +kernel
theorem dX9_share_13 : decode cX9_share 13 = .ok (.iconst 0, 1) := by decide +kernel
end
section
theorem dX9_share_14 : decode cX9_share 14 = .ok (.istore_n 3, 1) := by decide +kernel
theorem dX9_share_15 : decode cX9_share 15 = .ok (.aload_n 0, 1) := by decide +kernel
theorem dX9_share_16 : decode cX9_share 16 = .ok (.getfield 28, 3) := by decide +kernel
theorem dX9_share_19 : decode cX9_share 19 = .ok (.iload_n 1, 1) := by decide +kernel
theorem dX9_share_20 : decode cX9_share 20 = .ok (.invokevirtual 132, 3) := by decide +kernel
theorem dX9_share_23 : decode cX9_share 23 = .ok (.istore 4, 2) := by decide +kernel
theorem dX9_share_25 : decode cX9_share 25 = .ok (.iconst 0, 1) := by decide +kernel
theorem dX9_share_26 : decode cX9_share 26 = .ok (.istore 5, 2) := by decide +kernel
theorem dX9_share_28 : decode cX9_share 28 = .ok (.iload 5, 2) := by decide +kernel
theorem dX9_share_30 : decode cX9_share 30 = .ok (.iconst 4, 1) := by decide +kernel
theorem dX9_share_31 : decode cX9_share 31 = .ok (.if_icmp .ge 34, 3) := by decide +kernel
theorem dX9_share_34 : decode cX9_share 34 = .ok (.aload_n 0, 1) := by decide +kernel
theorem dX9_share_35 : decode cX9_share 35 = .ok (.getfield 19, 3) := by decide +kernel
theorem dX9_share_38 : decode cX9_share 38 = .ok (.iload_n 1, 1) := by decide +kernel
theorem dX9_share_39 : decode cX9_share 39 = .ok (.iload 5, 2) := by decide +kernel
theorem dX9_share_41 : decode cX9_share 41 = .ok (.invokevirtual 237, 3) := by decide +kernel
theorem dX9_share_44 : decode cX9_share 44 = .ok (.ifCond .eq 15, 3) := by decide +kernel
theorem dX9_share_47 : decode cX9_share 47 = .ok (.iload_n 3, 1) := by decide +kernel
theorem dX9_share_48 : decode cX9_share 48 = .ok (.aload_n 0, 1) := by decide +kernel
theorem dX9_share_49 : decode cX9_share 49 = .ok (.iload 4, 2) := by decide +kernel
theorem dX9_share_51 : decode cX9_share 51 = .ok (.iload 5, 2) := by decide +kernel
theorem dX9_share_53 : decode cX9_share 53 = .ok (.iadd, 1) := by decide +kernel
theorem dX9_share_54 : decode cX9_share 54 = .ok (.invokevirtual 241, 3) := by decide +kernel
theorem dX9_share_57 : decode cX9_share 57 = .ok (.iadd, 1) := by decide +kernel
theorem dX9_share_58 : decode cX9_share 58 = .ok (.istore_n 3, 1) := by decide +kernel
theorem dX9_share_59 : decode cX9_share 59 = .ok (.iinc 5 1, 3) := by decide +kernel
theorem dX9_share_62 : decode cX9_share 62 = .ok (.goto (-34), 3) := by decide +kernel
theorem dX9_share_65 : decode cX9_share 65 = .ok (.iload_n 3, 1) := by decide +kernel
theorem dX9_share_66 : decode cX9_share 66 = .ok (.bipush 60, 2) := by decide +kernel
theorem dX9_share_68 : decode cX9_share 68 = .ok (.iload_n 2, 1) := by decide +kernel
theorem dX9_share_69 : decode cX9_share 69 = .ok (.invokestatic 244, 3) := by decide +kernel
theorem dX9_share_72 : decode cX9_share 72 = .ok (.ireturn, 1) := by decide +kernel
theorem dX9_rests_0 : decode cX9_rests 0 = .ok (.aload_n 0, 1) := by decide +kernel
theorem dX9_rests_1 : decode cX9_rests 1 = .ok (.getfield 19, 3) := by decide +kernel
theorem dX9_rests_4 : decode cX9_rests 4 = .ok (.iload_n 1, 1) := by decide +kernel
theorem dX9_rests_5 : decode cX9_rests 5 = .ok (.invokevirtual 145, 3) := by decide +kernel
theorem dX9_rests_8 : decode cX9_rests 8 = .ok (.ifCond .eq 14, 3) := by decide +kernel
theorem dX9_rests_11 : decode cX9_rests 11 = .ok (.aload_n 0, 1) := by decide +kernel
theorem dX9_rests_12 : decode cX9_rests 12 = .ok (.getfield 19, 3) := by decide +kernel
theorem dX9_rests_15 : decode cX9_rests 15 = .ok (.iload_n 2, 1) := by decide +kernel
theorem dX9_rests_16 : decode cX9_rests 16 = .ok (.invokevirtual 145, 3) := by decide +kernel
theorem dX9_rests_19 : decode cX9_rests 19 = .ok (.ifCond .ne 5, 3) := by decide +kernel
theorem dX9_rests_22 : decode cX9_rests 22 = .ok (.iconst (-1), 1) := by decide +kernel
theorem dX9_rests_23 : decode cX9_rests 23 = .ok (.ireturn, 1) := by decide +kernel
theorem dX9_rests_24 : decode cX9_rests 24 = .ok (.iload_n 1, 1) := by decide +kernel
theorem dX9_rests_25 : decode cX9_rests 25 = .ok (.iload_n 2, 1) := by decide +kernel
theorem dX9_rests_26 : decode cX9_rests 26 = .ok (.if_icmp .eq 10, 3) := by decide +kernel
theorem dX9_rests_29 : decode cX9_rests 29 = .ok (.iload_n 3, 1) := by decide +kernel
theorem dX9_rests_30 : decode cX9_rests 30 = .ok (.invokestatic 154, 3) := by decide +kernel
theorem dX9_rests_33 : decode cX9_rests 33 = .ok (.ifCond .ne 6, 3) := by decide +kernel
theorem dX9_rests_36 : decode cX9_rests 36 = .ok (.bipush (-2), 2) := by decide +kernel
theorem dX9_rests_38 : decode cX9_rests 38 = .ok (.ireturn, 1) := by decide +kernel
theorem dX9_rests_39 : decode cX9_rests 39 = .ok (.iconst 0, 1) := by decide +kernel
theorem dX9_rests_40 : decode cX9_rests 40 = .ok (.istore 4, 2) := by decide +kernel
theorem dX9_rests_42 : decode cX9_rests 42 = .ok (.iload 4, 2) := by decide +kernel
theorem dX9_rests_44 : decode cX9_rests 44 = .ok (.iconst 4, 1) := by decide +kernel
theorem dX9_rests_45 : decode cX9_rests 45 = .ok (.if_icmp .ge 17, 3) := by decide +kernel
theorem dX9_rests_48 : decode cX9_rests 48 = .ok (.aload_n 0, 1) := by decide +kernel
theorem dX9_rests_49 : decode cX9_rests 49 = .ok (.iload_n 1, 1) := by decide +kernel
theorem dX9_rests_50 : decode cX9_rests 50 = .ok (.iload_n 2, 1) := by decide +kernel
theorem dX9_rests_51 : decode cX9_rests 51 = .ok (.iload 4, 2) := by decide +kernel
theorem dX9_rests_53 : decode cX9_rests 53 = .ok (.invokevirtual 248, 3) := by decide +kernel
theorem dX9_rests_56 : decode cX9_rests 56 = .ok (.iinc 4 1, 3) := by decide +kernel
theorem dX9_rests_59 : decode cX9_rests 59 = .ok (.goto (-17), 3) := by decide +kernel
theorem dX9_rests_62 : decode cX9_rests 62 = .ok (.iconst 0, 1) := by decide +kernel
theorem dX9_rests_63 : decode cX9_rests 63 = .ok (.istore 4, 2) := by decide +kernel
theorem dX9_rests_65 : decode cX9_rests 65 = .ok (.bipush (-9), 2) := by decide +kernel
theorem dX9_rests_67 : decode cX9_rests 67 = .ok (.istore 5, 2) := by decide +kernel
theorem dX9_rests_69 : decode cX9_rests 69 = .ok (.iconst 0, 1) := by decide +kernel
theorem dX9_rests_70 : decode cX9_rests 70 = .ok (.istore 6, 2) := by decide +kernel
theorem dX9_rests_72 : decode cX9_rests 72 = .ok (.iload 6, 2) := by decide +kernel
theorem dX9_rests_74 : decode cX9_rests 74 = .ok (.iconst 4, 1) := by decide +kernel
theorem dX9_rests_75 : decode cX9_rests 75 = .ok (.if_icmp .ge 71, 3) := by decide +kernel
theorem dX9_rests_78 : decode cX9_rests 78 = .ok (.aload_n 0, 1) := by decide +kernel
theorem dX9_rests_79 : decode cX9_rests 79 = .ok (.getfield 79, 3) := by decide +kernel
theorem dX9_rests_82 : decode cX9_rests 82 = .ok (.iload 6, 2) := by decide +kernel
theorem dX9_rests_84 : decode cX9_rests 84 = .ok (.iaload, 1) := by decide +kernel
theorem dX9_rests_85 : decode cX9_rests 85 = .ok (.aload_n 0, 1) := by decide +kernel
theorem dX9_rests_86 : decode cX9_rests 86 = .ok (.getfield 79, 3) := by decide +kernel
theorem dX9_rests_89 : decode cX9_rests 89 = .ok (.iload 6, 2) := by decide +kernel
theorem dX9_rests_91 : decode cX9_rests 91 = .ok (.iconst 2, 1) := by decide +kernel
theorem dX9_rests_92 : decode cX9_rests 92 = .ok (.ixor, 1) := by decide +kernel
theorem dX9_rests_93 : decode cX9_rests 93 = .ok (.iaload, 1) := by decide +kernel
theorem dX9_rests_94 : decode cX9_rests 94 = .ok (.if_icmp .lt 46, 3) := by decide +kernel
theorem dX9_rests_97 : decode cX9_rests 97 = .ok (.aload_n 0, 1) := by decide +kernel
theorem dX9_rests_98 : decode cX9_rests 98 = .ok (.getfield 83, 3) := by decide +kernel
theorem dX9_rests_101 : decode cX9_rests 101 = .ok (.iload 6, 2) := by decide +kernel
theorem dX9_rests_103 : decode cX9_rests 103 = .ok (.iaload, 1) := by decide +kernel
theorem dX9_rests_104 : decode cX9_rests 104 = .ok (.aload_n 0, 1) := by decide +kernel
theorem dX9_rests_105 : decode cX9_rests 105 = .ok (.getfield 83, 3) := by decide +kernel
theorem dX9_rests_108 : decode cX9_rests 108 = .ok (.iload 6, 2) := by decide +kernel
theorem dX9_rests_110 : decode cX9_rests 110 = .ok (.iconst 1, 1) := by decide +kernel
theorem dX9_rests_111 : decode cX9_rests 111 = .ok (.ixor, 1) := by decide +kernel
theorem dX9_rests_112 : decode cX9_rests 112 = .ok (.iaload, 1) := by decide +kernel
theorem dX9_rests_113 : decode cX9_rests 113 = .ok (.if_icmp .lt 27, 3) := by decide +kernel
theorem dX9_rests_116 : decode cX9_rests 116 = .ok (.iinc 4 1, 3) := by decide +kernel
theorem dX9_rests_119 : decode cX9_rests 119 = .ok (.iload 5, 2) := by decide +kernel
theorem dX9_rests_121 : decode cX9_rests 121 = .ok (.bipush (-9), 2) := by decide +kernel
theorem dX9_rests_123 : decode cX9_rests 123 = .ok (.if_icmp .ne 17, 3) := by decide +kernel
theorem dX9_rests_126 : decode cX9_rests 126 = .ok (.bipush 10, 2) := by decide +kernel
theorem dX9_rests_128 : decode cX9_rests 128 = .ok (.iload 6, 2) := by decide +kernel
theorem dX9_rests_130 : decode cX9_rests 130 = .ok (.iconst 1, 1) := by decide +kernel
theorem dX9_rests_131 : decode cX9_rests 131 = .ok (.ishr, 1) := by decide +kernel
theorem dX9_rests_132 : decode cX9_rests 132 = .ok (.imul, 1) := by decide +kernel
theorem dX9_rests_133 : decode cX9_rests 133 = .ok (.iload 6, 2) := by decide +kernel
theorem dX9_rests_135 : decode cX9_rests 135 = .ok (.iconst 1, 1) := by decide +kernel
theorem dX9_rests_136 : decode cX9_rests 136 = .ok (.iand, 1) := by decide +kernel
theorem dX9_rests_137 : decode cX9_rests 137 = .ok (.iadd, 1) := by decide +kernel
theorem dX9_rests_138 : decode cX9_rests 138 = .ok (.istore 5, 2) := by decide +kernel
theorem dX9_rests_140 : decode cX9_rests 140 = .ok (.iinc 6 1, 3) := by decide +kernel
theorem dX9_rests_143 : decode cX9_rests 143 = .ok (.goto (-71), 3) := by decide +kernel
theorem dX9_rests_146 : decode cX9_rests 146 = .ok (.iload_n 3, 1) := by decide +kernel
theorem dX9_rests_147 : decode cX9_rests 147 = .ok (.ifCond .ne 8, 3) := by decide +kernel
theorem dX9_rests_150 : decode cX9_rests 150 = .ok (.iload 4, 2) := by decide +kernel
theorem dX9_rests_152 : decode cX9_rests 152 = .ok (.goto 5, 3) := by decide +kernel
theorem dX9_rests_155 : decode cX9_rests 155 = .ok (.iload 5, 2) := by decide +kernel
theorem dX9_rests_157 : decode cX9_rests 157 = .ok (.ireturn, 1) := by decide +kernel
theorem dX9_drops_0 : decode cX9_drops 0 = .ok (.iload_n 1, 1) := by decide +kernel
theorem dX9_drops_1 : decode cX9_drops 1 = .ok (.invokestatic 154, 3) := by decide +kernel
theorem dX9_drops_4 : decode cX9_drops 4 = .ok (.ifCond .eq 13, 3) := by decide +kernel
theorem dX9_drops_7 : decode cX9_drops 7 = .ok (.iload_n 2, 1) := by decide +kernel
theorem dX9_drops_8 : decode cX9_drops 8 = .ok (.ifCond .lt 9, 3) := by decide +kernel
theorem dX9_drops_11 : decode cX9_drops 11 = .ok (.iload_n 2, 1) := by decide +kernel
theorem dX9_drops_12 : decode cX9_drops 12 = .ok (.bipush 10, 2) := by decide +kernel
theorem dX9_drops_14 : decode cX9_drops 14 = .ok (.if_icmp .le 6, 3) := by decide +kernel
theorem dX9_drops_17 : decode cX9_drops 17 = .ok (.bipush (-2), 2) := by decide +kernel
theorem dX9_drops_19 : decode cX9_drops 19 = .ok (.ireturn, 1) := by decide +kernel
theorem dX9_drops_20 : decode cX9_drops 20 = .ok (.iconst 0, 1) := by decide +kernel
theorem dX9_drops_21 : decode cX9_drops 21 = .ok (.istore 4, 2) := by decide +kernel
theorem dX9_drops_23 : decode cX9_drops 23 = .ok (.iconst 1, 1) := by decide +kernel
theorem dX9_drops_24 : decode cX9_drops 24 = .ok (.istore 5, 2) := by decide +kernel
theorem dX9_drops_26 : decode cX9_drops 26 = .ok (.iconst 0, 1) := by decide +kernel
theorem dX9_drops_27 : decode cX9_drops 27 = .ok (.istore 6, 2) := by decide +kernel
theorem dX9_drops_29 : decode cX9_drops 29 = .ok (.iload 6, 2) := by decide +kernel
theorem dX9_drops_31 : decode cX9_drops 31 = .ok (.aload_n 0, 1) := by decide +kernel
theorem dX9_drops_32 : decode cX9_drops 32 = .ok (.getfield 19, 3) := by decide +kernel
theorem dX9_drops_35 : decode cX9_drops 35 = .ok (.invokevirtual 110, 3) := by decide +kernel
theorem dX9_drops_38 : decode cX9_drops 38 = .ok (.if_icmp .ge 16, 3) := by decide +kernel
theorem dX9_drops_41 : decode cX9_drops 41 = .ok (.iload 5, 2) := by decide +kernel
theorem dX9_drops_43 : decode cX9_drops 43 = .ok (.bipush 10, 2) := by decide +kernel
theorem dX9_drops_45 : decode cX9_drops 45 = .ok (.imul, 1) := by decide +kernel
theorem dX9_drops_46 : decode cX9_drops 46 = .ok (.istore 5, 2) := by decide +kernel
theorem dX9_drops_48 : decode cX9_drops 48 = .ok (.iinc 6 1, 3) := by decide +kernel
theorem dX9_drops_51 : decode cX9_drops 51 = .ok (.goto (-22), 3) := by decide +kernel
theorem dX9_drops_54 : decode cX9_drops 54 = .ok (.iconst 0, 1) := by decide +kernel
theorem dX9_drops_55 : decode cX9_drops 55 = .ok (.istore 6, 2) := by decide +kernel
theorem dX9_drops_57 : decode cX9_drops 57 = .ok (.iload 6, 2) := by decide +kernel
theorem dX9_drops_59 : decode cX9_drops 59 = .ok (.iconst 1, 1) := by decide +kernel
theorem dX9_drops_60 : decode cX9_drops 60 = .ok (.aload_n 0, 1) := by decide +kernel
theorem dX9_drops_61 : decode cX9_drops 61 = .ok (.getfield 19, 3) := by decide +kernel
theorem dX9_drops_64 : decode cX9_drops 64 = .ok (.invokevirtual 110, 3) := by decide +kernel
theorem dX9_drops_67 : decode cX9_drops 67 = .ok (.ishl, 1) := by decide +kernel
theorem dX9_drops_68 : decode cX9_drops 68 = .ok (.if_icmp .ge 62, 3) := by decide +kernel
theorem dX9_drops_71 : decode cX9_drops 71 = .ok (.aload_n 0, 1) := by decide +kernel
theorem dX9_drops_72 : decode cX9_drops 72 = .ok (.iload 6, 2) := by decide +kernel
theorem dX9_drops_74 : decode cX9_drops 74 = .ok (.iload_n 2, 1) := by decide +kernel
theorem dX9_drops_75 : decode cX9_drops 75 = .ok (.invokevirtual 252, 3) := by decide +kernel
theorem dX9_drops_78 : decode cX9_drops 78 = .ok (.istore 7, 2) := by decide +kernel
theorem dX9_drops_80 : decode cX9_drops 80 = .ok (.iload 7, 2) := by decide +kernel
theorem dX9_drops_82 : decode cX9_drops 82 = .ok (.ifCond .le 42, 3) := by decide +kernel
theorem dX9_drops_85 : decode cX9_drops 85 = .ok (.aload_n 0, 1) := by decide +kernel
theorem dX9_drops_86 : decode cX9_drops 86 = .ok (.getfield 38, 3) := by decide +kernel
theorem dX9_drops_89 : decode cX9_drops 89 = .ok (.aload_n 0, 1) := by decide +kernel
theorem dX9_drops_90 : decode cX9_drops 90 = .ok (.getfield 28, 3) := by decide +kernel
theorem dX9_drops_93 : decode cX9_drops 93 = .ok (.iload_n 1, 1) := by decide +kernel
theorem dX9_drops_94 : decode cX9_drops 94 = .ok (.iload 6, 2) := by decide +kernel
theorem dX9_drops_96 : decode cX9_drops 96 = .ok (.invokevirtual 256, 3) := by decide +kernel
theorem dX9_drops_99 : decode cX9_drops 99 = .ok (.iload 4, 2) := by decide +kernel
theorem dX9_drops_101 : decode cX9_drops 101 = .ok (.aload_n 0, 1) := by decide +kernel
theorem dX9_drops_102 : decode cX9_drops 102 = .ok (.getfield 54, 3) := by decide +kernel
theorem dX9_drops_105 : decode cX9_drops 105 = .ok (.aload_n 0, 1) := by decide +kernel
theorem dX9_drops_106 : decode cX9_drops 106 = .ok (.getfield 38, 3) := by decide +kernel
theorem dX9_drops_109 : decode cX9_drops 109 = .ok (.invokevirtual 202, 3) := by decide +kernel
theorem dX9_drops_112 : decode cX9_drops 112 = .ok (.ifCond .eq 8, 3) := by decide +kernel
theorem dX9_drops_115 : decode cX9_drops 115 = .ok (.iload 7, 2) := by decide +kernel
theorem dX9_drops_117 : decode cX9_drops 117 = .ok (.goto 4, 3) := by decide +kernel
theorem dX9_drops_120 : decode cX9_drops 120 = .ok (.iconst 0, 1) := by decide +kernel
theorem dX9_drops_121 : decode cX9_drops 121 = .ok (.iadd, 1) := by decide +kernel
theorem dX9_drops_122 : decode cX9_drops 122 = .ok (.istore 4, 2) := by decide +kernel
theorem dX9_drops_124 : decode cX9_drops 124 = .ok (.iinc 6 1, 3) := by decide +kernel
theorem dX9_drops_127 : decode cX9_drops 127 = .ok (.goto (-70), 3) := by decide +kernel
theorem dX9_drops_130 : decode cX9_drops 130 = .ok (.iload 4, 2) := by decide +kernel
theorem dX9_drops_132 : decode cX9_drops 132 = .ok (.iload 5, 2) := by decide +kernel
theorem dX9_drops_134 : decode cX9_drops 134 = .ok (.iload_n 3, 1) := by decide +kernel
theorem dX9_drops_135 : decode cX9_drops 135 = .ok (.invokestatic 244, 3) := by decide +kernel
theorem dX9_drops_138 : decode cX9_drops 138 = .ok (.ireturn, 1) := by decide +kernel
theorem dX9_seed_0 : decode cX9_seed 0 = .ok (.aload_n 0, 1) := by decide +kernel
theorem dX9_seed_1 : decode cX9_seed 1 = .ok (.getfield 260, 3) := by decide +kernel
theorem dX9_seed_4 : decode cX9_seed 4 = .ok (.lstore_n 3, 1) := by decide +kernel
theorem dX9_seed_5 : decode cX9_seed 5 = .ok (.aload_n 0, 1) := by decide +kernel
theorem dX9_seed_6 : decode cX9_seed 6 = .ok (.lload_n 1, 1) := by decide +kernel
theorem dX9_seed_7 : decode cX9_seed 7 = .ok (.putfield 260, 3) := by decide +kernel
theorem dX9_seed_10 : decode cX9_seed 10 = .ok (.lload_n 3, 1) := by decide +kernel
theorem dX9_seed_11 : decode cX9_seed 11 = .ok (.lreturn, 1) := by decide +kernel
theorem dX9_years_0 : decode cX9_years 0 = .ok (.iload_n 1, 1) := by decide +kernel
theorem dX9_years_1 : decode cX9_years 1 = .ok (.iconst 1, 1) := by decide +kernel
theorem dX9_years_2 : decode cX9_years 2 = .ok (.if_icmp .lt 9, 3) := by decide +kernel
theorem dX9_years_5 : decode cX9_years 5 = .ok (.iload_n 1, 1) := by decide +kernel
theorem dX9_years_6 : decode cX9_years 6 = .ok (.bipush 30, 2) := by decide +kernel
theorem dX9_years_8 : decode cX9_years 8 = .ok (.if_icmp .le 6, 3) := by decide +kernel
theorem dX9_years_11 : decode cX9_years 11 = .ok (.bipush (-2), 2) := by decide +kernel
theorem dX9_years_13 : decode cX9_years 13 = .ok (.ireturn, 1) := by decide +kernel
theorem dX9_years_14 : decode cX9_years 14 = .ok (.iconst 0, 1) := by decide +kernel
theorem dX9_years_15 : decode cX9_years 15 = .ok (.istore_n 2, 1) := by decide +kernel
theorem dX9_years_16 : decode cX9_years 16 = .ok (.aload_n 0, 1) := by decide +kernel
theorem dX9_years_17 : decode cX9_years 17 = .ok (.getfield 32, 3) := by decide +kernel
theorem dX9_years_20 : decode cX9_years 20 = .ok (.aload_n 0, 1) := by decide +kernel
theorem dX9_years_21 : decode cX9_years 21 = .ok (.getfield 28, 3) := by decide +kernel
theorem dX9_years_24 : decode cX9_years 24 = .ok (.invokevirtual 221, 3) := by decide +kernel
theorem dX9_years_27 : decode cX9_years 27 = .ok (.iconst 0, 1) := by decide +kernel
theorem dX9_years_28 : decode cX9_years 28 = .ok (.istore_n 3, 1) := by decide +kernel
theorem dX9_years_29 : decode cX9_years 29 = .ok (.iload_n 3, 1) := by decide +kernel
theorem dX9_years_30 : decode cX9_years 30 = .ok (.iload_n 1, 1) := by decide +kernel
theorem dX9_years_31 : decode cX9_years 31 = .ok (.if_icmp .ge 63, 3) := by decide +kernel
theorem dX9_years_34 : decode cX9_years 34 = .ok (.aload_n 0, 1) := by decide +kernel
theorem dX9_years_35 : decode cX9_years 35 = .ok (.aload_n 0, 1) := by decide +kernel
theorem dX9_years_36 : decode cX9_years 36 = .ok (.getfield 260, 3) := by decide +kernel
theorem dX9_years_39 : decode cX9_years 39 = .ok (.ldc2_w 264, 3) := by decide +kernel
theorem dX9_years_42 : decode cX9_years 42 = .ok (.lmul, 1) := by decide +kernel
theorem dX9_years_43 : decode cX9_years 43 = .ok (.ldc2_w 266, 3) := by decide +kernel
theorem dX9_years_46 : decode cX9_years 46 = .ok (.ladd, 1) := by decide +kernel
theorem dX9_years_47 : decode cX9_years 47 = .ok (.putfield 260, 3) := by decide +kernel
theorem dX9_years_50 : decode cX9_years 50 = .ok (.aload_n 0, 1) := by decide +kernel
theorem dX9_years_51 : decode cX9_years 51 = .ok (.aload_n 0, 1) := by decide +kernel
theorem dX9_years_52 : decode cX9_years 52 = .ok (.getfield 260, 3) := by decide +kernel
theorem dX9_years_55 : decode cX9_years 55 = .ok (.bipush 33, 2) := by decide +kernel
theorem dX9_years_57 : decode cX9_years 57 = .ok (.lushr, 1) := by decide +kernel
theorem dX9_years_58 : decode cX9_years 58 = .ok (.ldc2_w 268, 3) := by decide +kernel
theorem dX9_years_61 : decode cX9_years 61 = .ok (.lrem, 1) := by decide +kernel
theorem dX9_years_62 : decode cX9_years 62 = .ok (.l2i, 1) := by decide +kernel
theorem dX9_years_63 : decode cX9_years 63 = .ok (.invokevirtual 270, 3) := by decide +kernel
theorem dX9_years_66 : decode cX9_years 66 = .ok (.aload_n 0, 1) := by decide +kernel
theorem dX9_years_67 : decode cX9_years 67 = .ok (.getfield 38, 3) := by decide +kernel
theorem dX9_years_70 : decode cX9_years 70 = .ok (.aload_n 0, 1) := by decide +kernel
theorem dX9_years_71 : decode cX9_years 71 = .ok (.getfield 32, 3) := by decide +kernel
theorem dX9_years_74 : decode cX9_years 74 = .ok (.iconst 0, 1) := by decide +kernel
theorem dX9_years_75 : decode cX9_years 75 = .ok (.invokevirtual 138, 3) := by decide +kernel
theorem dX9_years_78 : decode cX9_years 78 = .ok (.iload_n 2, 1) := by decide +kernel
theorem dX9_years_79 : decode cX9_years 79 = .ok (.aload_n 0, 1) := by decide +kernel
theorem dX9_years_80 : decode cX9_years 80 = .ok (.getfield 38, 3) := by decide +kernel
theorem dX9_years_83 : decode cX9_years 83 = .ok (.invokevirtual 273, 3) := by decide +kernel
theorem dX9_years_86 : decode cX9_years 86 = .ok (.iadd, 1) := by decide +kernel
theorem dX9_years_87 : decode cX9_years 87 = .ok (.istore_n 2, 1) := by decide +kernel
theorem dX9_years_88 : decode cX9_years 88 = .ok (.iinc 3 1, 3) := by decide +kernel
theorem dX9_years_91 : decode cX9_years 91 = .ok (.goto (-62), 3) := by decide +kernel
theorem dX9_years_94 : decode cX9_years 94 = .ok (.iload_n 2, 1) := by decide +kernel
theorem dX9_years_95 : decode cX9_years 95 = .ok (.ireturn, 1) := by decide +kernel
theorem dX9_keep_0 : decode cX9_keep 0 = .ok (.aload_n 0, 1) := by decide +kernel
theorem dX9_keep_1 : decode cX9_keep 1 = .ok (.getfield 68, 3) := by decide +kernel
theorem dX9_keep_4 : decode cX9_keep 4 = .ok (.iload_n 1, 1) := by decide +kernel
theorem dX9_keep_5 : decode cX9_keep 5 = .ok (.aload_n 0, 1) := by decide +kernel
theorem dX9_keep_6 : decode cX9_keep 6 = .ok (.getfield 28, 3) := by decide +kernel
theorem dX9_keep_9 : decode cX9_keep 9 = .ok (.invokevirtual 276, 3) := by decide +kernel
theorem dX9_keep_12 : decode cX9_keep 12 = .ok (.ifCond .eq 13, 3) := by decide +kernel
theorem dX9_keep_15 : decode cX9_keep 15 = .ok (.aload_n 0, 1) := by decide +kernel
theorem dX9_keep_16 : decode cX9_keep 16 = .ok (.getfield 28, 3) := by decide +kernel
theorem dX9_keep_19 : decode cX9_keep 19 = .ok (.invokevirtual 182, 3) := by decide +kernel
theorem dX9_keep_22 : decode cX9_keep 22 = .ok (.goto 4, 3) := by decide +kernel
theorem dX9_keep_25 : decode cX9_keep 25 = .ok (.iconst (-1), 1) := by decide +kernel
theorem dX9_keep_26 : decode cX9_keep 26 = .ok (.ireturn, 1) := by decide +kernel
theorem dX9_again_0 : decode cX9_again 0 = .ok (.aload_n 0, 1) := by decide +kernel
theorem dX9_again_1 : decode cX9_again 1 = .ok (.getfield 68, 3) := by decide +kernel
theorem dX9_again_4 : decode cX9_again 4 = .ok (.iload_n 1, 1) := by decide +kernel
theorem dX9_again_5 : decode cX9_again 5 = .ok (.invokevirtual 280, 3) := by decide +kernel
theorem dX9_again_8 : decode cX9_again 8 = .ok (.ifCond .ne 5, 3) := by decide +kernel
theorem dX9_again_11 : decode cX9_again 11 = .ok (.iconst (-1), 1) := by decide +kernel
theorem dX9_again_12 : decode cX9_again 12 = .ok (.ireturn, 1) := by decide +kernel
theorem dX9_again_13 : decode cX9_again 13 = .ok (.aload_n 0, 1) := by decide +kernel
theorem dX9_again_14 : decode cX9_again 14 = .ok (.getfield 68, 3) := by decide +kernel
theorem dX9_again_17 : decode cX9_again 17 = .ok (.iload_n 1, 1) := by decide +kernel
theorem dX9_again_18 : decode cX9_again 18 = .ok (.aload_n 0, 1) := by decide +kernel
theorem dX9_again_19 : decode cX9_again 19 = .ok (.getfield 28, 3) := by decide +kernel
theorem dX9_again_22 : decode cX9_again 22 = .ok (.invokevirtual 281, 3) := by decide +kernel
theorem dX9_again_25 : decode cX9_again 25 = .ok (.ifCond .ne 6, 3) := by decide +kernel
theorem dX9_again_28 : decode cX9_again 28 = .ok (.bipush (-3), 2) := by decide +kernel
theorem dX9_again_30 : decode cX9_again 30 = .ok (.ireturn, 1) := by decide +kernel
theorem dX9_again_31 : decode cX9_again 31 = .ok (.aload_n 0, 1) := by decide +kernel
theorem dX9_again_32 : decode cX9_again 32 = .ok (.getfield 61, 3) := by decide +kernel
theorem dX9_again_35 : decode cX9_again 35 = .ok (.invokevirtual 108, 3) := by decide +kernel
theorem dX9_again_38 : decode cX9_again 38 = .ok (.aload_n 0, 1) := by decide +kernel
theorem dX9_again_39 : decode cX9_again 39 = .ok (.getfield 28, 3) := by decide +kernel
theorem dX9_again_42 : decode cX9_again 42 = .ok (.invokevirtual 182, 3) := by decide +kernel
theorem dX9_again_45 : decode cX9_again 45 = .ok (.ireturn, 1) := by decide +kernel
theorem dX9_count_0 : decode cX9_count 0 = .ok (.iload_n 1, 1) := by decide +kernel
theorem dX9_count_1 : decode cX9_count 1 = .ok (.tableswitch 147 0 8 #[51, 59, 67, 87, 107, 115, 123, 131, 139], 51) := by decide +kernel
theorem dX9_count_52 : decode cX9_count 52 = .ok (.aload_n 0, 1) := by decide +kernel
theorem dX9_count_53 : decode cX9_count 53 = .ok (.getfield 12, 3) := by decide +kernel
theorem dX9_count_56 : decode cX9_count 56 = .ok (.invokevirtual 93, 3) := by decide +kernel
theorem dX9_count_59 : decode cX9_count 59 = .ok (.ireturn, 1) := by decide +kernel
theorem dX9_count_60 : decode cX9_count 60 = .ok (.aload_n 0, 1) := by decide +kernel
theorem dX9_count_61 : decode cX9_count 61 = .ok (.getfield 19, 3) := by decide +kernel
theorem dX9_count_64 : decode cX9_count 64 = .ok (.invokevirtual 110, 3) := by decide +kernel
theorem dX9_count_67 : decode cX9_count 67 = .ok (.ireturn, 1) := by decide +kernel
theorem dX9_count_68 : decode cX9_count 68 = .ok (.aload_n 0, 1) := by decide +kernel
theorem dX9_count_69 : decode cX9_count 69 = .ok (.getfield 38, 3) := by decide +kernel
theorem dX9_count_72 : decode cX9_count 72 = .ok (.aload_n 0, 1) := by decide +kernel
theorem dX9_count_73 : decode cX9_count 73 = .ok (.getfield 28, 3) := by decide +kernel
theorem dX9_count_76 : decode cX9_count 76 = .ok (.iconst 0, 1) := by decide +kernel
theorem dX9_count_77 : decode cX9_count 77 = .ok (.invokevirtual 138, 3) := by decide +kernel
theorem dX9_count_80 : decode cX9_count 80 = .ok (.aload_n 0, 1) := by decide +kernel
theorem dX9_count_81 : decode cX9_count 81 = .ok (.getfield 38, 3) := by decide +kernel
theorem dX9_count_84 : decode cX9_count 84 = .ok (.invokevirtual 273, 3) := by decide +kernel
theorem dX9_count_87 : decode cX9_count 87 = .ok (.ireturn, 1) := by decide +kernel
theorem dX9_count_88 : decode cX9_count 88 = .ok (.aload_n 0, 1) := by decide +kernel
theorem dX9_count_89 : decode cX9_count 89 = .ok (.getfield 38, 3) := by decide +kernel
theorem dX9_count_92 : decode cX9_count 92 = .ok (.aload_n 0, 1) := by decide +kernel
theorem dX9_count_93 : decode cX9_count 93 = .ok (.getfield 28, 3) := by decide +kernel
theorem dX9_count_96 : decode cX9_count 96 = .ok (.iconst 0, 1) := by decide +kernel
theorem dX9_count_97 : decode cX9_count 97 = .ok (.invokevirtual 138, 3) := by decide +kernel
theorem dX9_count_100 : decode cX9_count 100 = .ok (.aload_n 0, 1) := by decide +kernel
theorem dX9_count_101 : decode cX9_count 101 = .ok (.getfield 38, 3) := by decide +kernel
theorem dX9_count_104 : decode cX9_count 104 = .ok (.invokevirtual 284, 3) := by decide +kernel
theorem dX9_count_107 : decode cX9_count 107 = .ok (.ireturn, 1) := by decide +kernel
theorem dX9_count_108 : decode cX9_count 108 = .ok (.aload_n 0, 1) := by decide +kernel
theorem dX9_count_109 : decode cX9_count 109 = .ok (.getfield 28, 3) := by decide +kernel
theorem dX9_count_112 : decode cX9_count 112 = .ok (.invokevirtual 206, 3) := by decide +kernel
theorem dX9_count_115 : decode cX9_count 115 = .ok (.ireturn, 1) := by decide +kernel
theorem dX9_count_116 : decode cX9_count 116 = .ok (.aload_n 0, 1) := by decide +kernel
theorem dX9_count_117 : decode cX9_count 117 = .ok (.getfield 28, 3) := by decide +kernel
theorem dX9_count_120 : decode cX9_count 120 = .ok (.invokevirtual 182, 3) := by decide +kernel
theorem dX9_count_123 : decode cX9_count 123 = .ok (.ireturn, 1) := by decide +kernel
theorem dX9_count_124 : decode cX9_count 124 = .ok (.aload_n 0, 1) := by decide +kernel
theorem dX9_count_125 : decode cX9_count 125 = .ok (.getfield 54, 3) := by decide +kernel
theorem dX9_count_128 : decode cX9_count 128 = .ok (.invokevirtual 121, 3) := by decide +kernel
theorem dX9_count_131 : decode cX9_count 131 = .ok (.ireturn, 1) := by decide +kernel
theorem dX9_count_132 : decode cX9_count 132 = .ok (.aload_n 0, 1) := by decide +kernel
theorem dX9_count_133 : decode cX9_count 133 = .ok (.getfield 61, 3) := by decide +kernel
theorem dX9_count_136 : decode cX9_count 136 = .ok (.invokevirtual 189, 3) := by decide +kernel
theorem dX9_count_139 : decode cX9_count 139 = .ok (.ireturn, 1) := by decide +kernel
theorem dX9_count_140 : decode cX9_count 140 = .ok (.aload_n 0, 1) := by decide +kernel
theorem dX9_count_141 : decode cX9_count 141 = .ok (.getfield 75, 3) := by decide +kernel
theorem dX9_count_144 : decode cX9_count 144 = .ok (.invokevirtual 232, 3) := by decide +kernel
theorem dX9_count_147 : decode cX9_count 147 = .ok (.ireturn, 1) := by decide +kernel
theorem dX9_count_148 : decode cX9_count 148 = .ok (.bipush (-2), 2) := by decide +kernel
theorem dX9_count_150 : decode cX9_count 150 = .ok (.ireturn, 1) := by decide +kernel
theorem dX9_comesTrue_0 : decode cX9_comesTrue 0 = .ok (.iload_n 1, 1) := by decide +kernel
theorem dX9_comesTrue_1 : decode cX9_comesTrue 1 = .ok (.tableswitch 236 1 7 #[43, 64, 85, 105, 124, 161, 202], 43) := by decide +kernel
theorem dX9_comesTrue_44 : decode cX9_comesTrue 44 = .ok (.iload_n 2, 1) := by decide +kernel
theorem dX9_comesTrue_45 : decode cX9_comesTrue 45 = .ok (.ifCond .ne 18, 3) := by decide +kernel
theorem dX9_comesTrue_48 : decode cX9_comesTrue 48 = .ok (.aload_n 0, 1) := by decide +kernel
theorem dX9_comesTrue_49 : decode cX9_comesTrue 49 = .ok (.getfield 32, 3) := by decide +kernel
theorem dX9_comesTrue_52 : decode cX9_comesTrue 52 = .ok (.iload_n 3, 1) := by decide +kernel
theorem dX9_comesTrue_53 : decode cX9_comesTrue 53 = .ok (.invokevirtual 170, 3) := by decide +kernel
theorem dX9_comesTrue_56 : decode cX9_comesTrue 56 = .ok (.ifCond .eq 7, 3) := by decide +kernel
theorem dX9_comesTrue_59 : decode cX9_comesTrue 59 = .ok (.iconst 1, 1) := by decide +kernel
theorem dX9_comesTrue_60 : decode cX9_comesTrue 60 = .ok (.goto 4, 3) := by decide +kernel
theorem dX9_comesTrue_63 : decode cX9_comesTrue 63 = .ok (.iconst 0, 1) := by decide +kernel
theorem dX9_comesTrue_64 : decode cX9_comesTrue 64 = .ok (.ireturn, 1) := by decide +kernel
theorem dX9_comesTrue_65 : decode cX9_comesTrue 65 = .ok (.iload_n 2, 1) := by decide +kernel
theorem dX9_comesTrue_66 : decode cX9_comesTrue 66 = .ok (.ifCond .ne 18, 3) := by decide +kernel
theorem dX9_comesTrue_69 : decode cX9_comesTrue 69 = .ok (.aload_n 0, 1) := by decide +kernel
theorem dX9_comesTrue_70 : decode cX9_comesTrue 70 = .ok (.getfield 32, 3) := by decide +kernel
theorem dX9_comesTrue_73 : decode cX9_comesTrue 73 = .ok (.iload_n 3, 1) := by decide +kernel
theorem dX9_comesTrue_74 : decode cX9_comesTrue 74 = .ok (.invokevirtual 176, 3) := by decide +kernel
theorem dX9_comesTrue_77 : decode cX9_comesTrue 77 = .ok (.ifCond .eq 7, 3) := by decide +kernel
theorem dX9_comesTrue_80 : decode cX9_comesTrue 80 = .ok (.iconst 1, 1) := by decide +kernel
theorem dX9_comesTrue_81 : decode cX9_comesTrue 81 = .ok (.goto 4, 3) := by decide +kernel
theorem dX9_comesTrue_84 : decode cX9_comesTrue 84 = .ok (.iconst 0, 1) := by decide +kernel
theorem dX9_comesTrue_85 : decode cX9_comesTrue 85 = .ok (.ireturn, 1) := by decide +kernel
theorem dX9_comesTrue_86 : decode cX9_comesTrue 86 = .ok (.iload_n 2, 1) := by decide +kernel
theorem dX9_comesTrue_87 : decode cX9_comesTrue 87 = .ok (.ifCond .ne 7, 3) := by decide +kernel
theorem dX9_comesTrue_90 : decode cX9_comesTrue 90 = .ok (.iload_n 3, 1) := by decide +kernel
theorem dX9_comesTrue_91 : decode cX9_comesTrue 91 = .ok (.ifCond .eq 5, 3) := by decide +kernel
theorem dX9_comesTrue_94 : decode cX9_comesTrue 94 = .ok (.iconst 0, 1) := by decide +kernel
theorem dX9_comesTrue_95 : decode cX9_comesTrue 95 = .ok (.ireturn, 1) := by decide +kernel
theorem dX9_comesTrue_96 : decode cX9_comesTrue 96 = .ok (.aload_n 0, 1) := by decide +kernel
theorem dX9_comesTrue_97 : decode cX9_comesTrue 97 = .ok (.getfield 32, 3) := by decide +kernel
theorem dX9_comesTrue_100 : decode cX9_comesTrue 100 = .ok (.invokevirtual 179, 3) := by decide +kernel
theorem dX9_comesTrue_103 : decode cX9_comesTrue 103 = .ok (.pop, 1) := by decide +kernel
theorem dX9_comesTrue_104 : decode cX9_comesTrue 104 = .ok (.iconst 1, 1) := by decide +kernel
theorem dX9_comesTrue_105 : decode cX9_comesTrue 105 = .ok (.ireturn, 1) := by decide +kernel
theorem dX9_comesTrue_106 : decode cX9_comesTrue 106 = .ok (.iload_n 2, 1) := by decide +kernel
theorem dX9_comesTrue_107 : decode cX9_comesTrue 107 = .ok (.ifCond .ne 7, 3) := by decide +kernel
theorem dX9_comesTrue_110 : decode cX9_comesTrue 110 = .ok (.iload_n 3, 1) := by decide +kernel
theorem dX9_comesTrue_111 : decode cX9_comesTrue 111 = .ok (.ifCond .eq 5, 3) := by decide +kernel
theorem dX9_comesTrue_114 : decode cX9_comesTrue 114 = .ok (.iconst 0, 1) := by decide +kernel
theorem dX9_comesTrue_115 : decode cX9_comesTrue 115 = .ok (.ireturn, 1) := by decide +kernel
theorem dX9_comesTrue_116 : decode cX9_comesTrue 116 = .ok (.aload_n 0, 1) := by decide +kernel
theorem dX9_comesTrue_117 : decode cX9_comesTrue 117 = .ok (.getfield 32, 3) := by decide +kernel
theorem dX9_comesTrue_120 : decode cX9_comesTrue 120 = .ok (.invokevirtual 107, 3) := by decide +kernel
theorem dX9_comesTrue_123 : decode cX9_comesTrue 123 = .ok (.iconst 1, 1) := by decide +kernel
theorem dX9_comesTrue_124 : decode cX9_comesTrue 124 = .ok (.ireturn, 1) := by decide +kernel
theorem dX9_comesTrue_125 : decode cX9_comesTrue 125 = .ok (.iload_n 2, 1) := by decide +kernel
theorem dX9_comesTrue_126 : decode cX9_comesTrue 126 = .ok (.ifCond .ne 10, 3) := by decide +kernel
theorem dX9_comesTrue_129 : decode cX9_comesTrue 129 = .ok (.iload_n 3, 1) := by decide +kernel
theorem dX9_comesTrue_130 : decode cX9_comesTrue 130 = .ok (.invokestatic 154, 3) := by decide +kernel
theorem dX9_comesTrue_133 : decode cX9_comesTrue 133 = .ok (.ifCond .ne 5, 3) := by decide +kernel
theorem dX9_comesTrue_136 : decode cX9_comesTrue 136 = .ok (.iconst 0, 1) := by decide +kernel
theorem dX9_comesTrue_137 : decode cX9_comesTrue 137 = .ok (.ireturn, 1) := by decide +kernel
theorem dX9_comesTrue_138 : decode cX9_comesTrue 138 = .ok (.aload_n 0, 1) := by decide +kernel
theorem dX9_comesTrue_139 : decode cX9_comesTrue 139 = .ok (.getfield 38, 3) := by decide +kernel
theorem dX9_comesTrue_142 : decode cX9_comesTrue 142 = .ok (.aload_n 0, 1) := by decide +kernel
theorem dX9_comesTrue_143 : decode cX9_comesTrue 143 = .ok (.getfield 32, 3) := by decide +kernel
theorem dX9_comesTrue_146 : decode cX9_comesTrue 146 = .ok (.iload_n 3, 1) := by decide +kernel
theorem dX9_comesTrue_147 : decode cX9_comesTrue 147 = .ok (.invokevirtual 138, 3) := by decide +kernel
theorem dX9_comesTrue_150 : decode cX9_comesTrue 150 = .ok (.aload_n 0, 1) := by decide +kernel
theorem dX9_comesTrue_151 : decode cX9_comesTrue 151 = .ok (.getfield 54, 3) := by decide +kernel
theorem dX9_comesTrue_154 : decode cX9_comesTrue 154 = .ok (.aload_n 0, 1) := by decide +kernel
theorem dX9_comesTrue_155 : decode cX9_comesTrue 155 = .ok (.getfield 38, 3) := by decide +kernel
theorem dX9_comesTrue_158 : decode cX9_comesTrue 158 = .ok (.invokevirtual 202, 3) := by decide +kernel
theorem dX9_comesTrue_161 : decode cX9_comesTrue 161 = .ok (.ireturn, 1) := by decide +kernel
theorem dX9_comesTrue_162 : decode cX9_comesTrue 162 = .ok (.aload_n 0, 1) := by decide +kernel
theorem dX9_comesTrue_163 : decode cX9_comesTrue 163 = .ok (.getfield 38, 3) := by decide +kernel
theorem dX9_comesTrue_166 : decode cX9_comesTrue 166 = .ok (.aload_n 0, 1) := by decide +kernel
theorem dX9_comesTrue_167 : decode cX9_comesTrue 167 = .ok (.getfield 32, 3) := by decide +kernel
theorem dX9_comesTrue_170 : decode cX9_comesTrue 170 = .ok (.iconst 0, 1) := by decide +kernel
theorem dX9_comesTrue_171 : decode cX9_comesTrue 171 = .ok (.invokevirtual 138, 3) := by decide +kernel
theorem dX9_comesTrue_174 : decode cX9_comesTrue 174 = .ok (.aload_n 0, 1) := by decide +kernel
theorem dX9_comesTrue_175 : decode cX9_comesTrue 175 = .ok (.getfield 19, 3) := by decide +kernel
theorem dX9_comesTrue_178 : decode cX9_comesTrue 178 = .ok (.iload_n 2, 1) := by decide +kernel
theorem dX9_comesTrue_179 : decode cX9_comesTrue 179 = .ok (.invokevirtual 125, 3) := by decide +kernel
theorem dX9_comesTrue_182 : decode cX9_comesTrue 182 = .ok (.ifCond .eq 19, 3) := by decide +kernel
theorem dX9_comesTrue_185 : decode cX9_comesTrue 185 = .ok (.aload_n 0, 1) := by decide +kernel
theorem dX9_comesTrue_186 : decode cX9_comesTrue 186 = .ok (.getfield 38, 3) := by decide +kernel
theorem dX9_comesTrue_189 : decode cX9_comesTrue 189 = .ok (.iload_n 2, 1) := by decide +kernel
theorem dX9_comesTrue_190 : decode cX9_comesTrue 190 = .ok (.invokevirtual 142, 3) := by decide +kernel
theorem dX9_comesTrue_193 : decode cX9_comesTrue 193 = .ok (.iload_n 3, 1) := by decide +kernel
theorem dX9_comesTrue_194 : decode cX9_comesTrue 194 = .ok (.if_icmp .lt 7, 3) := by decide +kernel
theorem dX9_comesTrue_197 : decode cX9_comesTrue 197 = .ok (.iconst 1, 1) := by decide +kernel
theorem dX9_comesTrue_198 : decode cX9_comesTrue 198 = .ok (.goto 4, 3) := by decide +kernel
theorem dX9_comesTrue_201 : decode cX9_comesTrue 201 = .ok (.iconst 0, 1) := by decide +kernel
theorem dX9_comesTrue_202 : decode cX9_comesTrue 202 = .ok (.ireturn, 1) := by decide +kernel
theorem dX9_comesTrue_203 : decode cX9_comesTrue 203 = .ok (.aload_n 0, 1) := by decide +kernel
theorem dX9_comesTrue_204 : decode cX9_comesTrue 204 = .ok (.getfield 38, 3) := by decide +kernel
theorem dX9_comesTrue_207 : decode cX9_comesTrue 207 = .ok (.aload_n 0, 1) := by decide +kernel
theorem dX9_comesTrue_208 : decode cX9_comesTrue 208 = .ok (.getfield 32, 3) := by decide +kernel
theorem dX9_comesTrue_211 : decode cX9_comesTrue 211 = .ok (.iconst 0, 1) := by decide +kernel
theorem dX9_comesTrue_212 : decode cX9_comesTrue 212 = .ok (.invokevirtual 138, 3) := by decide +kernel
theorem dX9_comesTrue_215 : decode cX9_comesTrue 215 = .ok (.aload_n 0, 1) := by decide +kernel
theorem dX9_comesTrue_216 : decode cX9_comesTrue 216 = .ok (.getfield 38, 3) := by decide +kernel
theorem dX9_comesTrue_219 : decode cX9_comesTrue 219 = .ok (.invokevirtual 273, 3) := by decide +kernel
theorem dX9_comesTrue_222 : decode cX9_comesTrue 222 = .ok (.bipush 10, 2) := by decide +kernel
theorem dX9_comesTrue_224 : decode cX9_comesTrue 224 = .ok (.iload_n 2, 1) := by decide +kernel
theorem dX9_comesTrue_225 : decode cX9_comesTrue 225 = .ok (.imul, 1) := by decide +kernel
theorem dX9_comesTrue_226 : decode cX9_comesTrue 226 = .ok (.iload_n 3, 1) := by decide +kernel
theorem dX9_comesTrue_227 : decode cX9_comesTrue 227 = .ok (.iadd, 1) := by decide +kernel
theorem dX9_comesTrue_228 : decode cX9_comesTrue 228 = .ok (.if_icmp .lt 7, 3) := by decide +kernel
theorem dX9_comesTrue_231 : decode cX9_comesTrue 231 = .ok (.iconst 1, 1) := by decide +kernel
theorem dX9_comesTrue_232 : decode cX9_comesTrue 232 = .ok (.goto 4, 3) := by decide +kernel
theorem dX9_comesTrue_235 : decode cX9_comesTrue 235 = .ok (.iconst 0, 1) := by decide +kernel
theorem dX9_comesTrue_236 : decode cX9_comesTrue 236 = .ok (.ireturn, 1) := by decide +kernel
theorem dX9_comesTrue_237 : decode cX9_comesTrue 237 = .ok (.iconst 0, 1) := by decide +kernel
theorem dX9_comesTrue_238 : decode cX9_comesTrue 238 = .ok (.ireturn, 1) := by decide +kernel
theorem dX9_shareOfPlace_0 : decode cX9_shareOfPlace 0 = .ok (.iconst 0, 1) := by decide +kernel
theorem dX9_shareOfPlace_1 : decode cX9_shareOfPlace 1 = .ok (.istore_n 2, 1) := by decide +kernel
theorem dX9_shareOfPlace_2 : decode cX9_shareOfPlace 2 = .ok (.iconst 0, 1) := by decide +kernel
theorem dX9_shareOfPlace_3 : decode cX9_shareOfPlace 3 = .ok (.istore_n 3, 1) := by decide +kernel
theorem dX9_shareOfPlace_4 : decode cX9_shareOfPlace 4 = .ok (.iload_n 3, 1) := by decide +kernel
theorem dX9_shareOfPlace_5 : decode cX9_shareOfPlace 5 = .ok (.aload_n 0, 1) := by decide +kernel
theorem dX9_shareOfPlace_6 : decode cX9_shareOfPlace 6 = .ok (.getfield 19, 3) := by decide +kernel
theorem dX9_shareOfPlace_9 : decode cX9_shareOfPlace 9 = .ok (.invokevirtual 110, 3) := by decide +kernel
theorem dX9_shareOfPlace_12 : decode cX9_shareOfPlace 12 = .ok (.if_icmp .ge 33, 3) := by decide +kernel
theorem dX9_shareOfPlace_15 : decode cX9_shareOfPlace 15 = .ok (.aload_n 0, 1) := by decide +kernel
theorem dX9_shareOfPlace_16 : decode cX9_shareOfPlace 16 = .ok (.getfield 19, 3) := by decide +kernel
theorem dX9_shareOfPlace_19 : decode cX9_shareOfPlace 19 = .ok (.iload_n 3, 1) := by decide +kernel
theorem dX9_shareOfPlace_20 : decode cX9_shareOfPlace 20 = .ok (.iload_n 1, 1) := by decide +kernel
theorem dX9_shareOfPlace_21 : decode cX9_shareOfPlace 21 = .ok (.aload_n 0, 1) := by decide +kernel
theorem dX9_shareOfPlace_22 : decode cX9_shareOfPlace 22 = .ok (.getfield 28, 3) := by decide +kernel
theorem dX9_shareOfPlace_25 : decode cX9_shareOfPlace 25 = .ok (.iload_n 3, 1) := by decide +kernel
theorem dX9_shareOfPlace_26 : decode cX9_shareOfPlace 26 = .ok (.invokevirtual 132, 3) := by decide +kernel
theorem dX9_shareOfPlace_29 : decode cX9_shareOfPlace 29 = .ok (.isub, 1) := by decide +kernel
theorem dX9_shareOfPlace_30 : decode cX9_shareOfPlace 30 = .ok (.invokevirtual 237, 3) := by decide +kernel
theorem dX9_shareOfPlace_33 : decode cX9_shareOfPlace 33 = .ok (.ifCond .eq 6, 3) := by decide +kernel
theorem dX9_shareOfPlace_36 : decode cX9_shareOfPlace 36 = .ok (.iinc 2 1, 3) := by decide +kernel
theorem dX9_shareOfPlace_39 : decode cX9_shareOfPlace 39 = .ok (.iinc 3 1, 3) := by decide +kernel
theorem dX9_shareOfPlace_42 : decode cX9_shareOfPlace 42 = .ok (.goto (-38), 3) := by decide +kernel
theorem dX9_shareOfPlace_45 : decode cX9_shareOfPlace 45 = .ok (.iload_n 2, 1) := by decide +kernel
theorem dX9_shareOfPlace_46 : decode cX9_shareOfPlace 46 = .ok (.ifCond .ne 7, 3) := by decide +kernel
theorem dX9_shareOfPlace_49 : decode cX9_shareOfPlace 49 = .ok (.iconst 0, 1) := by decide +kernel
theorem dX9_shareOfPlace_50 : decode cX9_shareOfPlace 50 = .ok (.goto 7, 3) := by decide +kernel
theorem dX9_shareOfPlace_53 : decode cX9_shareOfPlace 53 = .ok (.bipush 60, 2) := by decide +kernel
theorem dX9_shareOfPlace_55 : decode cX9_shareOfPlace 55 = .ok (.iload_n 2, 1) := by decide +kernel
theorem dX9_shareOfPlace_56 : decode cX9_shareOfPlace 56 = .ok (.idiv, 1) := by decide +kernel
theorem dX9_shareOfPlace_57 : decode cX9_shareOfPlace 57 = .ok (.ireturn, 1) := by decide +kernel
theorem dX9_weighPair_0 : decode cX9_weighPair 0 = .ok (.iload_n 3, 1) := by decide +kernel
theorem dX9_weighPair_1 : decode cX9_weighPair 1 = .ok (.iconst 1, 1) := by decide +kernel
theorem dX9_weighPair_2 : decode cX9_weighPair 2 = .ok (.ishr, 1) := by decide +kernel
theorem dX9_weighPair_3 : decode cX9_weighPair 3 = .ok (.istore 4, 2) := by decide +kernel
theorem dX9_weighPair_5 : decode cX9_weighPair 5 = .ok (.iload_n 3, 1) := by decide +kernel
theorem dX9_weighPair_6 : decode cX9_weighPair 6 = .ok (.iconst 1, 1) := by decide +kernel
theorem dX9_weighPair_7 : decode cX9_weighPair 7 = .ok (.iand, 1) := by decide +kernel
theorem dX9_weighPair_8 : decode cX9_weighPair 8 = .ok (.istore 5, 2) := by decide +kernel
theorem dX9_weighPair_10 : decode cX9_weighPair 10 = .ok (.aload_n 0, 1) := by decide +kernel
theorem dX9_weighPair_11 : decode cX9_weighPair 11 = .ok (.getfield 32, 3) := by decide +kernel
theorem dX9_weighPair_14 : decode cX9_weighPair 14 = .ok (.aload_n 0, 1) := by decide +kernel
theorem dX9_weighPair_15 : decode cX9_weighPair 15 = .ok (.getfield 28, 3) := by decide +kernel
theorem dX9_weighPair_18 : decode cX9_weighPair 18 = .ok (.invokevirtual 221, 3) := by decide +kernel
theorem dX9_weighPair_21 : decode cX9_weighPair 21 = .ok (.iload 4, 2) := by decide +kernel
theorem dX9_weighPair_23 : decode cX9_weighPair 23 = .ok (.iconst 1, 1) := by decide +kernel
theorem dX9_weighPair_24 : decode cX9_weighPair 24 = .ok (.if_icmp .ne 12, 3) := by decide +kernel
theorem dX9_weighPair_27 : decode cX9_weighPair 27 = .ok (.aload_n 0, 1) := by decide +kernel
theorem dX9_weighPair_28 : decode cX9_weighPair 28 = .ok (.getfield 32, 3) := by decide +kernel
theorem dX9_weighPair_31 : decode cX9_weighPair 31 = .ok (.iload_n 1, 1) := by decide +kernel
theorem dX9_weighPair_32 : decode cX9_weighPair 32 = .ok (.invokevirtual 170, 3) := by decide +kernel
theorem dX9_weighPair_35 : decode cX9_weighPair 35 = .ok (.pop, 1) := by decide +kernel
theorem dX9_weighPair_36 : decode cX9_weighPair 36 = .ok (.iload 5, 2) := by decide +kernel
theorem dX9_weighPair_38 : decode cX9_weighPair 38 = .ok (.iconst 1, 1) := by decide +kernel
theorem dX9_weighPair_39 : decode cX9_weighPair 39 = .ok (.if_icmp .ne 12, 3) := by decide +kernel
theorem dX9_weighPair_42 : decode cX9_weighPair 42 = .ok (.aload_n 0, 1) := by decide +kernel
theorem dX9_weighPair_43 : decode cX9_weighPair 43 = .ok (.getfield 32, 3) := by decide +kernel
theorem dX9_weighPair_46 : decode cX9_weighPair 46 = .ok (.iload_n 2, 1) := by decide +kernel
theorem dX9_weighPair_47 : decode cX9_weighPair 47 = .ok (.invokevirtual 170, 3) := by decide +kernel
theorem dX9_weighPair_50 : decode cX9_weighPair 50 = .ok (.pop, 1) := by decide +kernel
theorem dX9_weighPair_51 : decode cX9_weighPair 51 = .ok (.aload_n 0, 1) := by decide +kernel
theorem dX9_weighPair_52 : decode cX9_weighPair 52 = .ok (.getfield 38, 3) := by decide +kernel
theorem dX9_weighPair_55 : decode cX9_weighPair 55 = .ok (.aload_n 0, 1) := by decide +kernel
theorem dX9_weighPair_56 : decode cX9_weighPair 56 = .ok (.getfield 32, 3) := by decide +kernel
theorem dX9_weighPair_59 : decode cX9_weighPair 59 = .ok (.iconst 0, 1) := by decide +kernel
theorem dX9_weighPair_60 : decode cX9_weighPair 60 = .ok (.invokevirtual 138, 3) := by decide +kernel
theorem dX9_weighPair_63 : decode cX9_weighPair 63 = .ok (.aload_n 0, 1) := by decide +kernel
theorem dX9_weighPair_64 : decode cX9_weighPair 64 = .ok (.getfield 79, 3) := by decide +kernel
theorem dX9_weighPair_67 : decode cX9_weighPair 67 = .ok (.iload_n 3, 1) := by decide +kernel
theorem dX9_weighPair_68 : decode cX9_weighPair 68 = .ok (.iconst 2, 1) := by decide +kernel
theorem dX9_weighPair_69 : decode cX9_weighPair 69 = .ok (.aload_n 0, 1) := by decide +kernel
theorem dX9_weighPair_70 : decode cX9_weighPair 70 = .ok (.getfield 38, 3) := by decide +kernel
theorem dX9_weighPair_73 : decode cX9_weighPair 73 = .ok (.iload_n 1, 1) := by decide +kernel
theorem dX9_weighPair_74 : decode cX9_weighPair 74 = .ok (.invokevirtual 142, 3) := by decide +kernel
theorem dX9_weighPair_77 : decode cX9_weighPair 77 = .ok (.imul, 1) := by decide +kernel
theorem dX9_weighPair_78 : decode cX9_weighPair 78 = .ok (.aload_n 0, 1) := by decide +kernel
theorem dX9_weighPair_79 : decode cX9_weighPair 79 = .ok (.getfield 38, 3) := by decide +kernel
theorem dX9_weighPair_82 : decode cX9_weighPair 82 = .ok (.iload_n 2, 1) := by decide +kernel
theorem dX9_weighPair_83 : decode cX9_weighPair 83 = .ok (.iconst 1, 1) := by decide +kernel
theorem dX9_weighPair_84 : decode cX9_weighPair 84 = .ok (.iadd, 1) := by decide +kernel
theorem dX9_weighPair_85 : decode cX9_weighPair 85 = .ok (.invokevirtual 142, 3) := by decide +kernel
theorem dX9_weighPair_88 : decode cX9_weighPair 88 = .ok (.isub, 1) := by decide +kernel
theorem dX9_weighPair_89 : decode cX9_weighPair 89 = .ok (.iload 4, 2) := by decide +kernel
theorem dX9_weighPair_91 : decode cX9_weighPair 91 = .ok (.isub, 1) := by decide +kernel
theorem dX9_weighPair_92 : decode cX9_weighPair 92 = .ok (.iastore, 1) := by decide +kernel
theorem dX9_weighPair_93 : decode cX9_weighPair 93 = .ok (.aload_n 0, 1) := by decide +kernel
theorem dX9_weighPair_94 : decode cX9_weighPair 94 = .ok (.getfield 83, 3) := by decide +kernel
theorem dX9_weighPair_97 : decode cX9_weighPair 97 = .ok (.iload_n 3, 1) := by decide +kernel
theorem dX9_weighPair_98 : decode cX9_weighPair 98 = .ok (.iconst 2, 1) := by decide +kernel
theorem dX9_weighPair_99 : decode cX9_weighPair 99 = .ok (.aload_n 0, 1) := by decide +kernel
theorem dX9_weighPair_100 : decode cX9_weighPair 100 = .ok (.getfield 38, 3) := by decide +kernel
theorem dX9_weighPair_103 : decode cX9_weighPair 103 = .ok (.iload_n 2, 1) := by decide +kernel
theorem dX9_weighPair_104 : decode cX9_weighPair 104 = .ok (.invokevirtual 142, 3) := by decide +kernel
theorem dX9_weighPair_107 : decode cX9_weighPair 107 = .ok (.imul, 1) := by decide +kernel
theorem dX9_weighPair_108 : decode cX9_weighPair 108 = .ok (.aload_n 0, 1) := by decide +kernel
theorem dX9_weighPair_109 : decode cX9_weighPair 109 = .ok (.getfield 38, 3) := by decide +kernel
theorem dX9_weighPair_112 : decode cX9_weighPair 112 = .ok (.iload_n 1, 1) := by decide +kernel
theorem dX9_weighPair_113 : decode cX9_weighPair 113 = .ok (.iconst 1, 1) := by decide +kernel
theorem dX9_weighPair_114 : decode cX9_weighPair 114 = .ok (.iadd, 1) := by decide +kernel
theorem dX9_weighPair_115 : decode cX9_weighPair 115 = .ok (.invokevirtual 142, 3) := by decide +kernel
theorem dX9_weighPair_118 : decode cX9_weighPair 118 = .ok (.isub, 1) := by decide +kernel
theorem dX9_weighPair_119 : decode cX9_weighPair 119 = .ok (.iload 5, 2) := by decide +kernel
theorem dX9_weighPair_121 : decode cX9_weighPair 121 = .ok (.isub, 1) := by decide +kernel
theorem dX9_weighPair_122 : decode cX9_weighPair 122 = .ok (.iastore, 1) := by decide +kernel
theorem dX9_weighPair_123 : decode cX9_weighPair 123 = .ok (.return_, 1) := by decide +kernel
theorem dX9_weightOf_0 : decode cX9_weightOf 0 = .ok (.iconst 1, 1) := by decide +kernel
theorem dX9_weightOf_1 : decode cX9_weightOf 1 = .ok (.istore_n 3, 1) := by decide +kernel
theorem dX9_weightOf_2 : decode cX9_weightOf 2 = .ok (.iconst 0, 1) := by decide +kernel
theorem dX9_weightOf_3 : decode cX9_weightOf 3 = .ok (.istore 4, 2) := by decide +kernel
theorem dX9_weightOf_5 : decode cX9_weightOf 5 = .ok (.iload 4, 2) := by decide +kernel
theorem dX9_weightOf_7 : decode cX9_weightOf 7 = .ok (.aload_n 0, 1) := by decide +kernel
theorem dX9_weightOf_8 : decode cX9_weightOf 8 = .ok (.getfield 19, 3) := by decide +kernel
theorem dX9_weightOf_11 : decode cX9_weightOf 11 = .ok (.invokevirtual 110, 3) := by decide +kernel
theorem dX9_weightOf_14 : decode cX9_weightOf 14 = .ok (.if_icmp .ge 30, 3) := by decide +kernel
theorem dX9_weightOf_17 : decode cX9_weightOf 17 = .ok (.iload_n 3, 1) := by decide +kernel
theorem dX9_weightOf_18 : decode cX9_weightOf 18 = .ok (.iload_n 1, 1) := by decide +kernel
theorem dX9_weightOf_19 : decode cX9_weightOf 19 = .ok (.iload 4, 2) := by decide +kernel
theorem dX9_weightOf_21 : decode cX9_weightOf 21 = .ok (.ishr, 1) := by decide +kernel
theorem dX9_weightOf_22 : decode cX9_weightOf 22 = .ok (.iconst 1, 1) := by decide +kernel
theorem dX9_weightOf_23 : decode cX9_weightOf 23 = .ok (.iand, 1) := by decide +kernel
theorem dX9_weightOf_24 : decode cX9_weightOf 24 = .ok (.iconst 1, 1) := by decide +kernel
theorem dX9_weightOf_25 : decode cX9_weightOf 25 = .ok (.if_icmp .ne 10, 3) := by decide +kernel
theorem dX9_weightOf_28 : decode cX9_weightOf 28 = .ok (.bipush 10, 2) := by decide +kernel
theorem dX9_weightOf_30 : decode cX9_weightOf 30 = .ok (.iload_n 2, 1) := by decide +kernel
theorem dX9_weightOf_31 : decode cX9_weightOf 31 = .ok (.isub, 1) := by decide +kernel
theorem dX9_weightOf_32 : decode cX9_weightOf 32 = .ok (.goto 4, 3) := by decide +kernel
theorem dX9_weightOf_35 : decode cX9_weightOf 35 = .ok (.iload_n 2, 1) := by decide +kernel
theorem dX9_weightOf_36 : decode cX9_weightOf 36 = .ok (.imul, 1) := by decide +kernel
theorem dX9_weightOf_37 : decode cX9_weightOf 37 = .ok (.istore_n 3, 1) := by decide +kernel
theorem dX9_weightOf_38 : decode cX9_weightOf 38 = .ok (.iinc 4 1, 3) := by decide +kernel
theorem dX9_weightOf_41 : decode cX9_weightOf 41 = .ok (.goto (-36), 3) := by decide +kernel
theorem dX9_weightOf_44 : decode cX9_weightOf 44 = .ok (.iload_n 3, 1) := by decide +kernel
theorem dX9_weightOf_45 : decode cX9_weightOf 45 = .ok (.ireturn, 1) := by decide +kernel
theorem dX9_passYear_0 : decode cX9_passYear 0 = .ok (.iload_n 1, 1) := by decide +kernel
theorem dX9_passYear_1 : decode cX9_passYear 1 = .ok (.iconst 5, 1) := by decide +kernel
theorem dX9_passYear_2 : decode cX9_passYear 2 = .ok (.if_icmp .ge 15, 3) := by decide +kernel
theorem dX9_passYear_5 : decode cX9_passYear 5 = .ok (.aload_n 0, 1) := by decide +kernel
theorem dX9_passYear_6 : decode cX9_passYear 6 = .ok (.getfield 32, 3) := by decide +kernel
theorem dX9_passYear_9 : decode cX9_passYear 9 = .ok (.iload_n 1, 1) := by decide +kernel
theorem dX9_passYear_10 : decode cX9_passYear 10 = .ok (.invokevirtual 170, 3) := by decide +kernel
theorem dX9_passYear_13 : decode cX9_passYear 13 = .ok (.pop, 1) := by decide +kernel
theorem dX9_passYear_14 : decode cX9_passYear 14 = .ok (.goto 47, 3) := by decide +kernel
theorem dX9_passYear_17 : decode cX9_passYear 17 = .ok (.iload_n 1, 1) := by decide +kernel
theorem dX9_passYear_18 : decode cX9_passYear 18 = .ok (.bipush 10, 2) := by decide +kernel
theorem dX9_passYear_20 : decode cX9_passYear 20 = .ok (.if_icmp .ge 17, 3) := by decide +kernel
theorem dX9_passYear_23 : decode cX9_passYear 23 = .ok (.aload_n 0, 1) := by decide +kernel
theorem dX9_passYear_24 : decode cX9_passYear 24 = .ok (.getfield 32, 3) := by decide +kernel
theorem dX9_passYear_27 : decode cX9_passYear 27 = .ok (.iload_n 1, 1) := by decide +kernel
theorem dX9_passYear_28 : decode cX9_passYear 28 = .ok (.iconst 5, 1) := by decide +kernel
theorem dX9_passYear_29 : decode cX9_passYear 29 = .ok (.isub, 1) := by decide +kernel
theorem dX9_passYear_30 : decode cX9_passYear 30 = .ok (.invokevirtual 176, 3) := by decide +kernel
theorem dX9_passYear_33 : decode cX9_passYear 33 = .ok (.pop, 1) := by decide +kernel
theorem dX9_passYear_34 : decode cX9_passYear 34 = .ok (.goto 27, 3) := by decide +kernel
theorem dX9_passYear_37 : decode cX9_passYear 37 = .ok (.iload_n 1, 1) := by decide +kernel
theorem dX9_passYear_38 : decode cX9_passYear 38 = .ok (.bipush 14, 2) := by decide +kernel
theorem dX9_passYear_40 : decode cX9_passYear 40 = .ok (.if_icmp .ge 14, 3) := by decide +kernel
theorem dX9_passYear_43 : decode cX9_passYear 43 = .ok (.aload_n 0, 1) := by decide +kernel
theorem dX9_passYear_44 : decode cX9_passYear 44 = .ok (.getfield 32, 3) := by decide +kernel
theorem dX9_passYear_47 : decode cX9_passYear 47 = .ok (.invokevirtual 179, 3) := by decide +kernel
theorem dX9_passYear_50 : decode cX9_passYear 50 = .ok (.pop, 1) := by decide +kernel
theorem dX9_passYear_51 : decode cX9_passYear 51 = .ok (.goto 10, 3) := by decide +kernel
theorem dX9_passYear_54 : decode cX9_passYear 54 = .ok (.aload_n 0, 1) := by decide +kernel
theorem dX9_passYear_55 : decode cX9_passYear 55 = .ok (.getfield 32, 3) := by decide +kernel
theorem dX9_passYear_58 : decode cX9_passYear 58 = .ok (.invokevirtual 107, 3) := by decide +kernel
theorem dX9_passYear_61 : decode cX9_passYear 61 = .ok (.return_, 1) := by decide +kernel
theorem dX9_isBit_0 : decode cX9_isBit 0 = .ok (.iload_n 0, 1) := by decide +kernel
theorem dX9_isBit_1 : decode cX9_isBit 1 = .ok (.ifCond .eq 8, 3) := by decide +kernel
theorem dX9_isBit_4 : decode cX9_isBit 4 = .ok (.iload_n 0, 1) := by decide +kernel
theorem dX9_isBit_5 : decode cX9_isBit 5 = .ok (.iconst 1, 1) := by decide +kernel
theorem dX9_isBit_6 : decode cX9_isBit 6 = .ok (.if_icmp .ne 7, 3) := by decide +kernel
theorem dX9_isBit_9 : decode cX9_isBit 9 = .ok (.iconst 1, 1) := by decide +kernel
theorem dX9_isBit_10 : decode cX9_isBit 10 = .ok (.goto 4, 3) := by decide +kernel
theorem dX9_isBit_13 : decode cX9_isBit 13 = .ok (.iconst 0, 1) := by decide +kernel
theorem dX9_isBit_14 : decode cX9_isBit 14 = .ok (.ireturn, 1) := by decide +kernel
theorem dX9_isPlace_0 : decode cX9_isPlace 0 = .ok (.iload_n 0, 1) := by decide +kernel
theorem dX9_isPlace_1 : decode cX9_isPlace 1 = .ok (.ifCond .lt 13, 3) := by decide +kernel
theorem dX9_isPlace_4 : decode cX9_isPlace 4 = .ok (.iload_n 0, 1) := by decide +kernel
theorem dX9_isPlace_5 : decode cX9_isPlace 5 = .ok (.bipush 28, 2) := by decide +kernel
theorem dX9_isPlace_7 : decode cX9_isPlace 7 = .ok (.if_icmp .ge 7, 3) := by decide +kernel
theorem dX9_isPlace_10 : decode cX9_isPlace 10 = .ok (.iconst 1, 1) := by decide +kernel
theorem dX9_isPlace_11 : decode cX9_isPlace 11 = .ok (.goto 4, 3) := by decide +kernel
theorem dX9_isPlace_14 : decode cX9_isPlace 14 = .ok (.iconst 0, 1) := by decide +kernel
theorem dX9_isPlace_15 : decode cX9_isPlace 15 = .ok (.ireturn, 1) := by decide +kernel
theorem dX9_isLetter_0 : decode cX9_isLetter 0 = .ok (.iload_n 0, 1) := by decide +kernel
theorem dX9_isLetter_1 : decode cX9_isLetter 1 = .ok (.bipush 97, 2) := by decide +kernel
theorem dX9_isLetter_3 : decode cX9_isLetter 3 = .ok (.if_icmp .lt 13, 3) := by decide +kernel
theorem dX9_isLetter_6 : decode cX9_isLetter 6 = .ok (.iload_n 0, 1) := by decide +kernel
theorem dX9_isLetter_7 : decode cX9_isLetter 7 = .ok (.bipush 122, 2) := by decide +kernel
theorem dX9_isLetter_9 : decode cX9_isLetter 9 = .ok (.if_icmp .gt 7, 3) := by decide +kernel
theorem dX9_isLetter_12 : decode cX9_isLetter 12 = .ok (.iconst 1, 1) := by decide +kernel
theorem dX9_isLetter_13 : decode cX9_isLetter 13 = .ok (.goto 4, 3) := by decide +kernel
theorem dX9_isLetter_16 : decode cX9_isLetter 16 = .ok (.iconst 0, 1) := by decide +kernel
theorem dX9_isLetter_17 : decode cX9_isLetter 17 = .ok (.ireturn, 1) := by decide +kernel
theorem dX9_tenTo_0 : decode cX9_tenTo 0 = .ok (.lconst 1, 1) := by decide +kernel
theorem dX9_tenTo_1 : decode cX9_tenTo 1 = .ok (.lstore_n 1, 1) := by decide +kernel
theorem dX9_tenTo_2 : decode cX9_tenTo 2 = .ok (.iconst 0, 1) := by decide +kernel
theorem dX9_tenTo_3 : decode cX9_tenTo 3 = .ok (.istore_n 3, 1) := by decide +kernel
theorem dX9_tenTo_4 : decode cX9_tenTo 4 = .ok (.iload_n 3, 1) := by decide +kernel
theorem dX9_tenTo_5 : decode cX9_tenTo 5 = .ok (.iload_n 0, 1) := by decide +kernel
theorem dX9_tenTo_6 : decode cX9_tenTo 6 = .ok (.if_icmp .ge 15, 3) := by decide +kernel
theorem dX9_tenTo_9 : decode cX9_tenTo 9 = .ok (.lload_n 1, 1) := by decide +kernel
theorem dX9_tenTo_10 : decode cX9_tenTo 10 = .ok (.ldc2_w 287, 3) := by decide +kernel
theorem dX9_tenTo_13 : decode cX9_tenTo 13 = .ok (.lmul, 1) := by decide +kernel
theorem dX9_tenTo_14 : decode cX9_tenTo 14 = .ok (.lstore_n 1, 1) := by decide +kernel
theorem dX9_tenTo_15 : decode cX9_tenTo 15 = .ok (.iinc 3 1, 3) := by decide +kernel
theorem dX9_tenTo_18 : decode cX9_tenTo 18 = .ok (.goto (-14), 3) := by decide +kernel
theorem dX9_tenTo_21 : decode cX9_tenTo 21 = .ok (.lload_n 1, 1) := by decide +kernel
theorem dX9_tenTo_22 : decode cX9_tenTo 22 = .ok (.lreturn, 1) := by decide +kernel
theorem dX9_hasFigures_0 : decode cX9_hasFigures 0 = .ok (.lload_n 0, 1) := by decide +kernel
theorem dX9_hasFigures_1 : decode cX9_hasFigures 1 = .ok (.lconst 0, 1) := by decide +kernel
theorem dX9_hasFigures_2 : decode cX9_hasFigures 2 = .ok (.lcmp, 1) := by decide +kernel
theorem dX9_hasFigures_3 : decode cX9_hasFigures 3 = .ok (.ifCond .lt 16, 3) := by decide +kernel
theorem dX9_hasFigures_6 : decode cX9_hasFigures 6 = .ok (.lload_n 0, 1) := by decide +kernel
theorem dX9_hasFigures_7 : decode cX9_hasFigures 7 = .ok (.iload_n 2, 1) := by decide +kernel
theorem dX9_hasFigures_8 : decode cX9_hasFigures 8 = .ok (.invokestatic 289, 3) := by decide +kernel
theorem dX9_hasFigures_11 : decode cX9_hasFigures 11 = .ok (.lcmp, 1) := by decide +kernel
theorem dX9_hasFigures_12 : decode cX9_hasFigures 12 = .ok (.ifCond .ge 7, 3) := by decide +kernel
theorem dX9_hasFigures_15 : decode cX9_hasFigures 15 = .ok (.iconst 1, 1) := by decide +kernel
theorem dX9_hasFigures_16 : decode cX9_hasFigures 16 = .ok (.goto 4, 3) := by decide +kernel
theorem dX9_hasFigures_19 : decode cX9_hasFigures 19 = .ok (.iconst 0, 1) := by decide +kernel
theorem dX9_hasFigures_20 : decode cX9_hasFigures 20 = .ok (.ireturn, 1) := by decide +kernel
theorem dX9_areLetters_0 : decode cX9_areLetters 0 = .ok (.lload_n 1, 1) := by decide +kernel
theorem dX9_areLetters_1 : decode cX9_areLetters 1 = .ok (.lstore_n 3, 1) := by decide +kernel
theorem dX9_areLetters_2 : decode cX9_areLetters 2 = .ok (.iconst 0, 1) := by decide +kernel
theorem dX9_areLetters_3 : decode cX9_areLetters 3 = .ok (.istore 5, 2) := by decide +kernel
theorem dX9_areLetters_5 : decode cX9_areLetters 5 = .ok (.iload 5, 2) := by decide +kernel
theorem dX9_areLetters_7 : decode cX9_areLetters 7 = .ok (.iload_n 0, 1) := by decide +kernel
theorem dX9_areLetters_8 : decode cX9_areLetters 8 = .ok (.if_icmp .ge 29, 3) := by decide +kernel
theorem dX9_areLetters_11 : decode cX9_areLetters 11 = .ok (.lload_n 3, 1) := by decide +kernel
theorem dX9_areLetters_12 : decode cX9_areLetters 12 = .ok (.ldc2_w 293, 3) := by decide +kernel
theorem dX9_areLetters_15 : decode cX9_areLetters 15 = .ok (.lrem, 1) := by decide +kernel
theorem dX9_areLetters_16 : decode cX9_areLetters 16 = .ok (.ldc2_w 295, 3) := by decide +kernel
theorem dX9_areLetters_19 : decode cX9_areLetters 19 = .ok (.lcmp, 1) := by decide +kernel
theorem dX9_areLetters_20 : decode cX9_areLetters 20 = .ok (.ifCond .le 5, 3) := by decide +kernel
theorem dX9_areLetters_23 : decode cX9_areLetters 23 = .ok (.iconst 0, 1) := by decide +kernel
theorem dX9_areLetters_24 : decode cX9_areLetters 24 = .ok (.ireturn, 1) := by decide +kernel
theorem dX9_areLetters_25 : decode cX9_areLetters 25 = .ok (.lload_n 3, 1) := by decide +kernel
theorem dX9_areLetters_26 : decode cX9_areLetters 26 = .ok (.ldc2_w 293, 3) := by decide +kernel
theorem dX9_areLetters_29 : decode cX9_areLetters 29 = .ok (.ldiv, 1) := by decide +kernel
theorem dX9_areLetters_30 : decode cX9_areLetters 30 = .ok (.lstore_n 3, 1) := by decide +kernel
theorem dX9_areLetters_31 : decode cX9_areLetters 31 = .ok (.iinc 5 1, 3) := by decide +kernel
theorem dX9_areLetters_34 : decode cX9_areLetters 34 = .ok (.goto (-29), 3) := by decide +kernel
theorem dX9_areLetters_37 : decode cX9_areLetters 37 = .ok (.iconst 1, 1) := by decide +kernel
theorem dX9_areLetters_38 : decode cX9_areLetters 38 = .ok (.ireturn, 1) := by decide +kernel
theorem dX9_fraction_0 : decode cX9_fraction 0 = .ok (.iload_n 0, 1) := by decide +kernel
theorem dX9_fraction_1 : decode cX9_fraction 1 = .ok (.iload_n 1, 1) := by decide +kernel
theorem dX9_fraction_2 : decode cX9_fraction 2 = .ok (.invokestatic 297, 3) := by decide +kernel
theorem dX9_fraction_5 : decode cX9_fraction 5 = .ok (.istore_n 3, 1) := by decide +kernel
theorem dX9_fraction_6 : decode cX9_fraction 6 = .ok (.iload_n 3, 1) := by decide +kernel
theorem dX9_fraction_7 : decode cX9_fraction 7 = .ok (.ifCond .ne 13, 3) := by decide +kernel
theorem dX9_fraction_10 : decode cX9_fraction 10 = .ok (.iload_n 2, 1) := by decide +kernel
theorem dX9_fraction_11 : decode cX9_fraction 11 = .ok (.ifCond .eq 7, 3) := by decide +kernel
theorem dX9_fraction_14 : decode cX9_fraction 14 = .ok (.iload_n 0, 1) := by decide +kernel
theorem dX9_fraction_15 : decode cX9_fraction 15 = .ok (.goto 4, 3) := by decide +kernel
theorem dX9_fraction_18 : decode cX9_fraction 18 = .ok (.iload_n 1, 1) := by decide +kernel
theorem dX9_fraction_19 : decode cX9_fraction 19 = .ok (.ireturn, 1) := by decide +kernel
theorem dX9_fraction_20 : decode cX9_fraction 20 = .ok (.iload_n 2, 1) := by decide +kernel
theorem dX9_fraction_21 : decode cX9_fraction 21 = .ok (.ifCond .eq 9, 3) := by decide +kernel
theorem dX9_fraction_24 : decode cX9_fraction 24 = .ok (.iload_n 0, 1) := by decide +kernel
theorem dX9_fraction_25 : decode cX9_fraction 25 = .ok (.iload_n 3, 1) := by decide +kernel
theorem dX9_fraction_26 : decode cX9_fraction 26 = .ok (.idiv, 1) := by decide +kernel
theorem dX9_fraction_27 : decode cX9_fraction 27 = .ok (.goto 6, 3) := by decide +kernel
theorem dX9_fraction_30 : decode cX9_fraction 30 = .ok (.iload_n 1, 1) := by decide +kernel
theorem dX9_fraction_31 : decode cX9_fraction 31 = .ok (.iload_n 3, 1) := by decide +kernel
theorem dX9_fraction_32 : decode cX9_fraction 32 = .ok (.idiv, 1) := by decide +kernel
theorem dX9_fraction_33 : decode cX9_fraction 33 = .ok (.ireturn, 1) := by decide +kernel
theorem dX9_greatestShared_0 : decode cX9_greatestShared 0 = .ok (.iload_n 0, 1) := by decide +kernel
theorem dX9_greatestShared_1 : decode cX9_greatestShared 1 = .ok (.istore_n 2, 1) := by decide +kernel
theorem dX9_greatestShared_2 : decode cX9_greatestShared 2 = .ok (.iload_n 1, 1) := by decide +kernel
theorem dX9_greatestShared_3 : decode cX9_greatestShared 3 = .ok (.istore_n 3, 1) := by decide +kernel
theorem dX9_greatestShared_4 : decode cX9_greatestShared 4 = .ok (.iconst 0, 1) := by decide +kernel
theorem dX9_greatestShared_5 : decode cX9_greatestShared 5 = .ok (.istore 4, 2) := by decide +kernel
theorem dX9_greatestShared_7 : decode cX9_greatestShared 7 = .ok (.iload 4, 2) := by decide +kernel
theorem dX9_greatestShared_9 : decode cX9_greatestShared 9 = .ok (.bipush 64, 2) := by decide +kernel
theorem dX9_greatestShared_11 : decode cX9_greatestShared 11 = .ok (.if_icmp .ge 23, 3) := by decide +kernel
theorem dX9_greatestShared_14 : decode cX9_greatestShared 14 = .ok (.iload_n 3, 1) := by decide +kernel
theorem dX9_greatestShared_15 : decode cX9_greatestShared 15 = .ok (.ifCond .eq 19, 3) := by decide +kernel
theorem dX9_greatestShared_18 : decode cX9_greatestShared 18 = .ok (.iload_n 2, 1) := by decide +kernel
theorem dX9_greatestShared_19 : decode cX9_greatestShared 19 = .ok (.iload_n 3, 1) := by decide +kernel
theorem dX9_greatestShared_20 : decode cX9_greatestShared 20 = .ok (.irem, 1) := by decide +kernel
theorem dX9_greatestShared_21 : decode cX9_greatestShared 21 = .ok (.istore 5, 2) := by decide +kernel
theorem dX9_greatestShared_23 : decode cX9_greatestShared 23 = .ok (.iload_n 3, 1) := by decide +kernel
theorem dX9_greatestShared_24 : decode cX9_greatestShared 24 = .ok (.istore_n 2, 1) := by decide +kernel
theorem dX9_greatestShared_25 : decode cX9_greatestShared 25 = .ok (.iload 5, 2) := by decide +kernel
theorem dX9_greatestShared_27 : decode cX9_greatestShared 27 = .ok (.istore_n 3, 1) := by decide +kernel
theorem dX9_greatestShared_28 : decode cX9_greatestShared 28 = .ok (.iinc 4 1, 3) := by decide +kernel
theorem dX9_greatestShared_31 : decode cX9_greatestShared 31 = .ok (.goto (-24), 3) := by decide +kernel
theorem dX9_greatestShared_34 : decode cX9_greatestShared 34 = .ok (.iload_n 2, 1) := by decide +kernel
theorem dX9_greatestShared_35 : decode cX9_greatestShared 35 = .ok (.ireturn, 1) := by decide +kernel
theorem dX10_init_0 : decode cX10_init 0 = .ok (.aload_n 0, 1) := by decide +kernel
theorem dX10_init_1 : decode cX10_init 1 = .ok (.invokespecial 1, 3) := by decide +kernel
theorem dX10_init_4 : decode cX10_init 4 = .ok (.aload_n 0, 1) := by decide +kernel
theorem dX10_init_5 : decode cX10_init 5 = .ok (.bipush 6, 2) := by decide +kernel
theorem dX10_init_7 : decode cX10_init 7 = .ok (.newarray .int, 2) := by decide +kernel
theorem dX10_init_9 : decode cX10_init 9 = .ok (.putfield 7, 3) := by decide +kernel
theorem dX10_init_12 : decode cX10_init 12 = .ok (.aload_n 0, 1) := by decide +kernel
theorem dX10_init_13 : decode cX10_init 13 = .ok (.bipush 48, 2) := by decide +kernel
theorem dX10_init_15 : decode cX10_init 15 = .ok (.newarray .int, 2) := by decide +kernel
theorem dX10_init_17 : decode cX10_init 17 = .ok (.putfield 13, 3) := by decide +kernel
theorem dX10_init_20 : decode cX10_init 20 = .ok (.aload_n 0, 1) := by decide +kernel
theorem dX10_init_21 : decode cX10_init 21 = .ok (.bipush 10, 2) := by decide +kernel
theorem dX10_init_23 : decode cX10_init 23 = .ok (.newarray .int, 2) := by decide +kernel
theorem dX10_init_25 : decode cX10_init 25 = .ok (.putfield 16, 3) := by decide +kernel
theorem dX10_init_28 : decode cX10_init 28 = .ok (.aload_n 0, 1) := by decide +kernel
theorem dX10_init_29 : decode cX10_init 29 = .ok (.bipush 6, 2) := by decide +kernel
theorem dX10_init_31 : decode cX10_init 31 = .ok (.newarray .int, 2) := by decide +kernel
theorem dX10_init_33 : decode cX10_init 33 = .ok (.putfield 19, 3) := by decide +kernel
theorem dX10_init_36 : decode cX10_init 36 = .ok (.aload_n 0, 1) := by decide +kernel
theorem dX10_init_37 : decode cX10_init 37 = .ok (.bipush 48, 2) := by decide +kernel
theorem dX10_init_39 : decode cX10_init 39 = .ok (.newarray .int, 2) := by decide +kernel
theorem dX10_init_41 : decode cX10_init 41 = .ok (.putfield 22, 3) := by decide +kernel
theorem dX10_init_44 : decode cX10_init 44 = .ok (.aload_n 0, 1) := by decide +kernel
theorem dX10_init_45 : decode cX10_init 45 = .ok (.bipush 64, 2) := by decide +kernel
theorem dX10_init_47 : decode cX10_init 47 = .ok (.newarray .int, 2) := by decide +kernel
theorem dX10_init_49 : decode cX10_init 49 = .ok (.putfield 25, 3) := by decide +kernel
theorem dX10_init_52 : decode cX10_init 52 = .ok (.aload_n 0, 1) := by decide +kernel
theorem dX10_init_53 : decode cX10_init 53 = .ok (.iconst 5, 1) := by decide +kernel
theorem dX10_init_54 : decode cX10_init 54 = .ok (.newarray .int, 2) := by decide +kernel
theorem dX10_init_56 : decode cX10_init 56 = .ok (.putfield 28, 3) := by decide +kernel
theorem dX10_init_59 : decode cX10_init 59 = .ok (.aload_n 0, 1) := by decide +kernel
theorem dX10_init_60 : decode cX10_init 60 = .ok (.bipush 70, 2) := by decide +kernel
theorem dX10_init_62 : decode cX10_init 62 = .ok (.newarray .int, 2) := by decide +kernel
theorem dX10_init_64 : decode cX10_init 64 = .ok (.putfield 31, 3) := by decide +kernel
theorem dX10_init_67 : decode cX10_init 67 = .ok (.aload_n 0, 1) := by decide +kernel
theorem dX10_init_68 : decode cX10_init 68 = .ok (.bipush 6, 2) := by decide +kernel
theorem dX10_init_70 : decode cX10_init 70 = .ok (.newarray .int, 2) := by decide +kernel
theorem dX10_init_72 : decode cX10_init 72 = .ok (.putfield 34, 3) := by decide +kernel
theorem dX10_init_75 : decode cX10_init 75 = .ok (.aload_n 0, 1) := by decide +kernel
theorem dX10_init_76 : decode cX10_init 76 = .ok (.bipush 6, 2) := by decide +kernel
theorem dX10_init_78 : decode cX10_init 78 = .ok (.newarray .int, 2) := by decide +kernel
theorem dX10_init_80 : decode cX10_init 80 = .ok (.putfield 37, 3) := by decide +kernel
theorem dX10_init_83 : decode cX10_init 83 = .ok (.aload_n 0, 1) := by decide +kernel
theorem dX10_init_84 : decode cX10_init 84 = .ok (.bipush 6, 2) := by decide +kernel
theorem dX10_init_86 : decode cX10_init 86 = .ok (.newarray .int, 2) := by decide +kernel
theorem dX10_init_88 : decode cX10_init 88 = .ok (.putfield 40, 3) := by decide +kernel
theorem dX10_init_91 : decode cX10_init 91 = .ok (.aload_n 0, 1) := by decide +kernel
theorem dX10_init_92 : decode cX10_init 92 = .ok (.iconst 2, 1) := by decide +kernel
theorem dX10_init_93 : decode cX10_init 93 = .ok (.newarray .boolean, 2) := by decide +kernel
theorem dX10_init_95 : decode cX10_init 95 = .ok (.putfield 43, 3) := by decide +kernel
theorem dX10_init_98 : decode cX10_init 98 = .ok (.aload_n 0, 1) := by decide +kernel
theorem dX10_init_99 : decode cX10_init 99 = .ok (.bipush 10, 2) := by decide +kernel
theorem dX10_init_101 : decode cX10_init 101 = .ok (.newarray .int, 2) := by decide +kernel
theorem dX10_init_103 : decode cX10_init 103 = .ok (.putfield 47, 3) := by decide +kernel
theorem dX10_init_106 : decode cX10_init 106 = .ok (.return_, 1) := by decide +kernel
theorem dX10_in_0 : decode cX10_in 0 = .ok (.lload_n 0, 1) := by decide +kernel
theorem dX10_in_1 : decode cX10_in 1 = .ok (.lload_n 2, 1) := by decide +kernel
theorem dX10_in_2 : decode cX10_in 2 = .ok (.lcmp, 1) := by decide +kernel
theorem dX10_in_3 : decode cX10_in 3 = .ok (.ifCond .lt 14, 3) := by decide +kernel
theorem dX10_in_6 : decode cX10_in 6 = .ok (.lload_n 0, 1) := by decide +kernel
theorem dX10_in_7 : decode cX10_in 7 = .ok (.lload 4, 2) := by decide +kernel
theorem dX10_in_9 : decode cX10_in 9 = .ok (.lcmp, 1) := by decide +kernel
theorem dX10_in_10 : decode cX10_in 10 = .ok (.ifCond .gt 7, 3) := by decide +kernel
theorem dX10_in_13 : decode cX10_in 13 = .ok (.iconst 1, 1) := by decide +kernel
theorem dX10_in_14 : decode cX10_in 14 = .ok (.goto 4, 3) := by decide +kernel
theorem dX10_in_17 : decode cX10_in 17 = .ok (.iconst 0, 1) := by decide +kernel
theorem dX10_in_18 : decode cX10_in 18 = .ok (.ireturn, 1) := by decide +kernel
theorem dX10_has_0 : decode cX10_has 0 = .ok (.iload_n 0, 1) := by decide +kernel
theorem dX10_has_1 : decode cX10_has 1 = .ok (.iload_n 1, 1) := by decide +kernel
theorem dX10_has_2 : decode cX10_has 2 = .ok (.ishr, 1) := by decide +kernel
theorem dX10_has_3 : decode cX10_has 3 = .ok (.iconst 1, 1) := by decide +kernel
theorem dX10_has_4 : decode cX10_has 4 = .ok (.iand, 1) := by decide +kernel
theorem dX10_has_5 : decode cX10_has 5 = .ok (.iconst 1, 1) := by decide +kernel
theorem dX10_has_6 : decode cX10_has 6 = .ok (.if_icmp .ne 7, 3) := by decide +kernel
theorem dX10_has_9 : decode cX10_has 9 = .ok (.iconst 1, 1) := by decide +kernel
theorem dX10_has_10 : decode cX10_has 10 = .ok (.goto 4, 3) := by decide +kernel
theorem dX10_has_13 : decode cX10_has 13 = .ok (.iconst 0, 1) := by decide +kernel
theorem dX10_has_14 : decode cX10_has 14 = .ok (.ireturn, 1) := by decide +kernel
theorem dX10_ones_0 : decode cX10_ones 0 = .ok (.iconst 0, 1) := by decide +kernel
theorem dX10_ones_1 : decode cX10_ones 1 = .ok (.istore_n 1, 1) := by decide +kernel
theorem dX10_ones_2 : decode cX10_ones 2 = .ok (.iconst 0, 1) := by decide +kernel
theorem dX10_ones_3 : decode cX10_ones 3 = .ok (.istore_n 2, 1) := by decide +kernel
theorem dX10_ones_4 : decode cX10_ones 4 = .ok (.iload_n 2, 1) := by decide +kernel
theorem dX10_ones_5 : decode cX10_ones 5 = .ok (.bipush 6, 2) := by decide +kernel
theorem dX10_ones_7 : decode cX10_ones 7 = .ok (.if_icmp .ge 17, 3) := by decide +kernel
theorem dX10_ones_10 : decode cX10_ones 10 = .ok (.iload_n 1, 1) := by decide +kernel
theorem dX10_ones_11 : decode cX10_ones 11 = .ok (.iload_n 0, 1) := by decide +kernel
theorem dX10_ones_12 : decode cX10_ones 12 = .ok (.iload_n 2, 1) := by decide +kernel
theorem dX10_ones_13 : decode cX10_ones 13 = .ok (.ishr, 1) := by decide +kernel
theorem dX10_ones_14 : decode cX10_ones 14 = .ok (.iconst 1, 1) := by decide +kernel
theorem dX10_ones_15 : decode cX10_ones 15 = .ok (.iand, 1) := by decide +kernel
theorem dX10_ones_16 : decode cX10_ones 16 = .ok (.iadd, 1) := by decide +kernel
theorem dX10_ones_17 : decode cX10_ones 17 = .ok (.istore_n 1, 1) := by decide +kernel
theorem dX10_ones_18 : decode cX10_ones 18 = .ok (.iinc 2 1, 3) := by decide +kernel
theorem dX10_ones_21 : decode cX10_ones 21 = .ok (.goto (-17), 3) := by decide +kernel
theorem dX10_ones_24 : decode cX10_ones 24 = .ok (.iload_n 1, 1) := by decide +kernel
theorem dX10_ones_25 : decode cX10_ones 25 = .ok (.ireturn, 1) := by decide +kernel
theorem dX10_write_0 : decode cX10_write 0 = .ok (.iload_n 1, 1) := by decide +kernel
theorem dX10_write_1 : decode cX10_write 1 = .ok (.i2l, 1) := by decide +kernel
theorem dX10_write_2 : decode cX10_write 2 = .ok (.lconst 0, 1) := by decide +kernel
theorem dX10_write_3 : decode cX10_write 3 = .ok (.ldc2_w 50, 3) := by decide +kernel
theorem dX10_write_6 : decode cX10_write 6 = .ok (.invokestatic 52, 3) := by decide +kernel
theorem dX10_write_9 : decode cX10_write 9 = .ok (.ifCond .ne 6, 3) := by decide +kernel
theorem dX10_write_12 : decode cX10_write 12 = .ok (.bipush (-2), 2) := by decide +kernel
theorem dX10_write_14 : decode cX10_write 14 = .ok (.ireturn, 1) := by decide +kernel
theorem dX10_write_15 : decode cX10_write 15 = .ok (.aload_n 0, 1) := by decide +kernel
theorem dX10_write_16 : decode cX10_write 16 = .ok (.getfield 56, 3) := by decide +kernel
theorem dX10_write_19 : decode cX10_write 19 = .ok (.bipush 64, 2) := by decide +kernel
theorem dX10_write_21 : decode cX10_write 21 = .ok (.if_icmp .ne 6, 3) := by decide +kernel
theorem dX10_write_24 : decode cX10_write 24 = .ok (.bipush (-4), 2) := by decide +kernel
theorem dX10_write_26 : decode cX10_write 26 = .ok (.ireturn, 1) := by decide +kernel
theorem dX10_write_27 : decode cX10_write 27 = .ok (.aload_n 0, 1) := by decide +kernel
theorem dX10_write_28 : decode cX10_write 28 = .ok (.getfield 25, 3) := by decide +kernel
theorem dX10_write_31 : decode cX10_write 31 = .ok (.aload_n 0, 1) := by decide +kernel
theorem dX10_write_32 : decode cX10_write 32 = .ok (.getfield 56, 3) := by decide +kernel
theorem dX10_write_35 : decode cX10_write 35 = .ok (.iload_n 1, 1) := by decide +kernel
theorem dX10_write_36 : decode cX10_write 36 = .ok (.iastore, 1) := by decide +kernel
theorem dX10_write_37 : decode cX10_write 37 = .ok (.aload_n 0, 1) := by decide +kernel
theorem dX10_write_38 : decode cX10_write 38 = .ok (.dup, 1) := by decide +kernel
theorem dX10_write_39 : decode cX10_write 39 = .ok (.getfield 56, 3) := by decide +kernel
theorem dX10_write_42 : decode cX10_write 42 = .ok (.iconst 1, 1) := by decide +kernel
theorem dX10_write_43 : decode cX10_write 43 = .ok (.iadd, 1) := by decide +kernel
theorem dX10_write_44 : decode cX10_write 44 = .ok (.putfield 56, 3) := by decide +kernel
theorem dX10_write_47 : decode cX10_write 47 = .ok (.aload_n 0, 1) := by decide +kernel
theorem dX10_write_48 : decode cX10_write 48 = .ok (.getfield 56, 3) := by decide +kernel
theorem dX10_write_51 : decode cX10_write 51 = .ok (.ireturn, 1) := by decide +kernel
theorem dX10_wipe_0 : decode cX10_wipe 0 = .ok (.aload_n 0, 1) := by decide +kernel
theorem dX10_wipe_1 : decode cX10_wipe 1 = .ok (.getfield 56, 3) := by decide +kernel
theorem dX10_wipe_4 : decode cX10_wipe 4 = .ok (.istore_n 1, 1) := by decide +kernel
theorem dX10_wipe_5 : decode cX10_wipe 5 = .ok (.aload_n 0, 1) := by decide +kernel
theorem dX10_wipe_6 : decode cX10_wipe 6 = .ok (.iconst 0, 1) := by decide +kernel
theorem dX10_wipe_7 : decode cX10_wipe 7 = .ok (.putfield 56, 3) := by decide +kernel
theorem dX10_wipe_10 : decode cX10_wipe 10 = .ok (.iload_n 1, 1) := by decide +kernel
theorem dX10_wipe_11 : decode cX10_wipe 11 = .ok (.ireturn, 1) := by decide +kernel
theorem dX10_readText_0 : decode cX10_readText 0 = .ok (.aload_n 0, 1) := by decide +kernel
theorem dX10_readText_1 : decode cX10_readText 1 = .ok (.iconst 0, 1) := by decide +kernel
theorem dX10_readText_2 : decode cX10_readText 2 = .ok (.putfield 60, 3) := by decide +kernel
theorem dX10_readText_5 : decode cX10_readText 5 = .ok (.aload_n 0, 1) := by decide +kernel
theorem dX10_readText_6 : decode cX10_readText 6 = .ok (.getfield 56, 3) := by decide +kernel
theorem dX10_readText_9 : decode cX10_readText 9 = .ok (.ifCond .eq 14, 3) := by decide +kernel
theorem dX10_readText_12 : decode cX10_readText 12 = .ok (.aload_n 0, 1) := by decide +kernel
theorem dX10_readText_13 : decode cX10_readText 13 = .ok (.getfield 25, 3) := by decide +kernel
theorem dX10_readText_16 : decode cX10_readText 16 = .ok (.iconst 0, 1) := by decide +kernel
theorem dX10_readText_17 : decode cX10_readText 17 = .ok (.iaload, 1) := by decide +kernel
theorem dX10_readText_18 : decode cX10_readText 18 = .ok (.bipush 70, 2) := by decide +kernel
theorem dX10_readText_20 : decode cX10_readText 20 = .ok (.if_icmp .eq 5, 3) := by decide +kernel
theorem dX10_readText_23 : decode cX10_readText 23 = .ok (.iconst 0, 1) := by decide +kernel
theorem dX10_readText_24 : decode cX10_readText 24 = .ok (.ireturn, 1) := by decide +kernel
theorem dX10_readText_25 : decode cX10_readText 25 = .ok (.iconst 1, 1) := by decide +kernel
theorem dX10_readText_26 : decode cX10_readText 26 = .ok (.istore_n 1, 1) := by decide +kernel
theorem dX10_readText_27 : decode cX10_readText 27 = .ok (.iload_n 1, 1) := by decide +kernel
theorem dX10_readText_28 : decode cX10_readText 28 = .ok (.aload_n 0, 1) := by decide +kernel
theorem dX10_readText_29 : decode cX10_readText 29 = .ok (.getfield 56, 3) := by decide +kernel
theorem dX10_readText_32 : decode cX10_readText 32 = .ok (.if_icmp .ge 171, 3) := by decide +kernel
theorem dX10_readText_35 : decode cX10_readText 35 = .ok (.iload_n 1, 1) := by decide +kernel
theorem dX10_readText_36 : decode cX10_readText 36 = .ok (.iconst 1, 1) := by decide +kernel
theorem dX10_readText_37 : decode cX10_readText 37 = .ok (.isub, 1) := by decide +kernel
theorem dX10_readText_38 : decode cX10_readText 38 = .ok (.bipush 10, 2) := by decide +kernel
theorem dX10_readText_40 : decode cX10_readText 40 = .ok (.irem, 1) := by decide +kernel
theorem dX10_readText_41 : decode cX10_readText 41 = .ok (.istore_n 2, 1) := by decide +kernel
theorem dX10_readText_42 : decode cX10_readText 42 = .ok (.iload_n 2, 1) := by decide +kernel
theorem dX10_readText_43 : decode cX10_readText 43 = .ok (.ifCond .ne 31, 3) := by decide +kernel
theorem dX10_readText_46 : decode cX10_readText 46 = .ok (.aload_n 0, 1) := by decide +kernel
theorem dX10_readText_47 : decode cX10_readText 47 = .ok (.getfield 25, 3) := by decide +kernel
theorem dX10_readText_50 : decode cX10_readText 50 = .ok (.iload_n 1, 1) := by decide +kernel
theorem dX10_readText_51 : decode cX10_readText 51 = .ok (.iaload, 1) := by decide +kernel
theorem dX10_readText_52 : decode cX10_readText 52 = .ok (.bipush 66, 2) := by decide +kernel
theorem dX10_readText_54 : decode cX10_readText 54 = .ok (.if_icmp .ne 16, 3) := by decide +kernel
theorem dX10_readText_57 : decode cX10_readText 57 = .ok (.aload_n 0, 1) := by decide +kernel
theorem dX10_readText_58 : decode cX10_readText 58 = .ok (.getfield 60, 3) := by decide +kernel
theorem dX10_readText_61 : decode cX10_readText 61 = .ok (.bipush 6, 2) := by decide +kernel
theorem dX10_readText_63 : decode cX10_readText 63 = .ok (.if_icmp .ge 7, 3) := by decide +kernel
theorem dX10_readText_66 : decode cX10_readText 66 = .ok (.iconst 1, 1) := by decide +kernel
theorem dX10_readText_67 : decode cX10_readText 67 = .ok (.goto 47, 3) := by decide +kernel
theorem dX10_readText_70 : decode cX10_readText 70 = .ok (.iconst 0, 1) := by decide +kernel
theorem dX10_readText_71 : decode cX10_readText 71 = .ok (.goto 43, 3) := by decide +kernel
theorem dX10_readText_74 : decode cX10_readText 74 = .ok (.iload_n 2, 1) := by decide +kernel
theorem dX10_readText_75 : decode cX10_readText 75 = .ok (.iconst 1, 1) := by decide +kernel
theorem dX10_readText_76 : decode cX10_readText 76 = .ok (.if_icmp .ne 22, 3) := by decide +kernel
theorem dX10_readText_79 : decode cX10_readText 79 = .ok (.aload_n 0, 1) := by decide +kernel
theorem dX10_readText_80 : decode cX10_readText 80 = .ok (.getfield 25, 3) := by decide +kernel
theorem dX10_readText_83 : decode cX10_readText 83 = .ok (.iload_n 1, 1) := by decide +kernel
theorem dX10_readText_84 : decode cX10_readText 84 = .ok (.iaload, 1) := by decide +kernel
theorem dX10_readText_85 : decode cX10_readText 85 = .ok (.i2l, 1) := by decide +kernel
theorem dX10_readText_86 : decode cX10_readText 86 = .ok (.ldc2_w 63, 3) := by decide +kernel
theorem dX10_readText_89 : decode cX10_readText 89 = .ok (.ldc2_w 65, 3) := by decide +kernel
theorem dX10_readText_92 : decode cX10_readText 92 = .ok (.invokestatic 52, 3) := by decide +kernel
theorem dX10_readText_95 : decode cX10_readText 95 = .ok (.goto 19, 3) := by decide +kernel
theorem dX10_readText_98 : decode cX10_readText 98 = .ok (.aload_n 0, 1) := by decide +kernel
theorem dX10_readText_99 : decode cX10_readText 99 = .ok (.getfield 25, 3) := by decide +kernel
theorem dX10_readText_102 : decode cX10_readText 102 = .ok (.iload_n 1, 1) := by decide +kernel
theorem dX10_readText_103 : decode cX10_readText 103 = .ok (.iaload, 1) := by decide +kernel
theorem dX10_readText_104 : decode cX10_readText 104 = .ok (.i2l, 1) := by decide +kernel
theorem dX10_readText_105 : decode cX10_readText 105 = .ok (.ldc2_w 67, 3) := by decide +kernel
end
section
theorem dX10_readText_108 : decode cX10_readText 108 = .ok (.ldc2_w 69, 3) := by decide +kernel
theorem dX10_readText_111 : decode cX10_readText 111 = .ok (.invokestatic 52, 3) := by decide +kernel
theorem dX10_readText_114 : decode cX10_readText 114 = .ok (.istore_n 3, 1) := by decide +kernel
theorem dX10_readText_115 : decode cX10_readText 115 = .ok (.iload_n 3, 1) := by decide +kernel
theorem dX10_readText_116 : decode cX10_readText 116 = .ok (.ifCond .ne 5, 3) := by decide +kernel
theorem dX10_readText_119 : decode cX10_readText 119 = .ok (.iload_n 1, 1) := by decide +kernel
theorem dX10_readText_120 : decode cX10_readText 120 = .ok (.ireturn, 1) := by decide +kernel
theorem dX10_readText_121 : decode cX10_readText 121 = .ok (.iload_n 2, 1) := by decide +kernel
theorem dX10_readText_122 : decode cX10_readText 122 = .ok (.iconst 1, 1) := by decide +kernel
theorem dX10_readText_123 : decode cX10_readText 123 = .ok (.if_icmp .ne 24, 3) := by decide +kernel
theorem dX10_readText_126 : decode cX10_readText 126 = .ok (.aload_n 0, 1) := by decide +kernel
theorem dX10_readText_127 : decode cX10_readText 127 = .ok (.getfield 19, 3) := by decide +kernel
theorem dX10_readText_130 : decode cX10_readText 130 = .ok (.aload_n 0, 1) := by decide +kernel
theorem dX10_readText_131 : decode cX10_readText 131 = .ok (.getfield 60, 3) := by decide +kernel
theorem dX10_readText_134 : decode cX10_readText 134 = .ok (.aload_n 0, 1) := by decide +kernel
theorem dX10_readText_135 : decode cX10_readText 135 = .ok (.getfield 25, 3) := by decide +kernel
theorem dX10_readText_138 : decode cX10_readText 138 = .ok (.iload_n 1, 1) := by decide +kernel
theorem dX10_readText_139 : decode cX10_readText 139 = .ok (.iaload, 1) := by decide +kernel
theorem dX10_readText_140 : decode cX10_readText 140 = .ok (.bipush 48, 2) := by decide +kernel
theorem dX10_readText_142 : decode cX10_readText 142 = .ok (.isub, 1) := by decide +kernel
theorem dX10_readText_143 : decode cX10_readText 143 = .ok (.iastore, 1) := by decide +kernel
theorem dX10_readText_144 : decode cX10_readText 144 = .ok (.goto 33, 3) := by decide +kernel
theorem dX10_readText_147 : decode cX10_readText 147 = .ok (.iload_n 2, 1) := by decide +kernel
theorem dX10_readText_148 : decode cX10_readText 148 = .ok (.iconst 1, 1) := by decide +kernel
theorem dX10_readText_149 : decode cX10_readText 149 = .ok (.if_icmp .le 28, 3) := by decide +kernel
theorem dX10_readText_152 : decode cX10_readText 152 = .ok (.aload_n 0, 1) := by decide +kernel
theorem dX10_readText_153 : decode cX10_readText 153 = .ok (.getfield 22, 3) := by decide +kernel
theorem dX10_readText_156 : decode cX10_readText 156 = .ok (.bipush 8, 2) := by decide +kernel
theorem dX10_readText_158 : decode cX10_readText 158 = .ok (.aload_n 0, 1) := by decide +kernel
theorem dX10_readText_159 : decode cX10_readText 159 = .ok (.getfield 60, 3) := by decide +kernel
theorem dX10_readText_162 : decode cX10_readText 162 = .ok (.imul, 1) := by decide +kernel
theorem dX10_readText_163 : decode cX10_readText 163 = .ok (.iload_n 2, 1) := by decide +kernel
theorem dX10_readText_164 : decode cX10_readText 164 = .ok (.iadd, 1) := by decide +kernel
theorem dX10_readText_165 : decode cX10_readText 165 = .ok (.iconst 2, 1) := by decide +kernel
theorem dX10_readText_166 : decode cX10_readText 166 = .ok (.isub, 1) := by decide +kernel
theorem dX10_readText_167 : decode cX10_readText 167 = .ok (.aload_n 0, 1) := by decide +kernel
theorem dX10_readText_168 : decode cX10_readText 168 = .ok (.getfield 25, 3) := by decide +kernel
theorem dX10_readText_171 : decode cX10_readText 171 = .ok (.iload_n 1, 1) := by decide +kernel
theorem dX10_readText_172 : decode cX10_readText 172 = .ok (.iaload, 1) := by decide +kernel
theorem dX10_readText_173 : decode cX10_readText 173 = .ok (.bipush 97, 2) := by decide +kernel
theorem dX10_readText_175 : decode cX10_readText 175 = .ok (.isub, 1) := by decide +kernel
theorem dX10_readText_176 : decode cX10_readText 176 = .ok (.iastore, 1) := by decide +kernel
theorem dX10_readText_177 : decode cX10_readText 177 = .ok (.aload_n 0, 1) := by decide +kernel
theorem dX10_readText_178 : decode cX10_readText 178 = .ok (.dup, 1) := by decide +kernel
theorem dX10_readText_179 : decode cX10_readText 179 = .ok (.getfield 60, 3) := by decide +kernel
theorem dX10_readText_182 : decode cX10_readText 182 = .ok (.iload_n 2, 1) := by decide +kernel
theorem dX10_readText_183 : decode cX10_readText 183 = .ok (.bipush 9, 2) := by decide +kernel
theorem dX10_readText_185 : decode cX10_readText 185 = .ok (.if_icmp .ne 7, 3) := by decide +kernel
theorem dX10_readText_188 : decode cX10_readText 188 = .ok (.iconst 1, 1) := by decide +kernel
theorem dX10_readText_189 : decode cX10_readText 189 = .ok (.goto 4, 3) := by decide +kernel
theorem dX10_readText_192 : decode cX10_readText 192 = .ok (.iconst 0, 1) := by decide +kernel
theorem dX10_readText_193 : decode cX10_readText 193 = .ok (.iadd, 1) := by decide +kernel
theorem dX10_readText_194 : decode cX10_readText 194 = .ok (.putfield 60, 3) := by decide +kernel
theorem dX10_readText_197 : decode cX10_readText 197 = .ok (.iinc 1 1, 3) := by decide +kernel
theorem dX10_readText_200 : decode cX10_readText 200 = .ok (.goto (-173), 3) := by decide +kernel
theorem dX10_readText_203 : decode cX10_readText 203 = .ok (.aload_n 0, 1) := by decide +kernel
theorem dX10_readText_204 : decode cX10_readText 204 = .ok (.getfield 56, 3) := by decide +kernel
theorem dX10_readText_207 : decode cX10_readText 207 = .ok (.iconst 1, 1) := by decide +kernel
theorem dX10_readText_208 : decode cX10_readText 208 = .ok (.isub, 1) := by decide +kernel
theorem dX10_readText_209 : decode cX10_readText 209 = .ok (.bipush 10, 2) := by decide +kernel
theorem dX10_readText_211 : decode cX10_readText 211 = .ok (.irem, 1) := by decide +kernel
theorem dX10_readText_212 : decode cX10_readText 212 = .ok (.ifCond .ne 8, 3) := by decide +kernel
theorem dX10_readText_215 : decode cX10_readText 215 = .ok (.bipush (-9), 2) := by decide +kernel
theorem dX10_readText_217 : decode cX10_readText 217 = .ok (.goto 7, 3) := by decide +kernel
theorem dX10_readText_220 : decode cX10_readText 220 = .ok (.aload_n 0, 1) := by decide +kernel
theorem dX10_readText_221 : decode cX10_readText 221 = .ok (.getfield 56, 3) := by decide +kernel
theorem dX10_readText_224 : decode cX10_readText 224 = .ok (.ireturn, 1) := by decide +kernel
theorem dX10_fault_0 : decode cX10_fault 0 = .ok (.aload_n 0, 1) := by decide +kernel
theorem dX10_fault_1 : decode cX10_fault 1 = .ok (.invokevirtual 71, 3) := by decide +kernel
theorem dX10_fault_4 : decode cX10_fault 4 = .ok (.ireturn, 1) := by decide +kernel
theorem dX10_fan_0 : decode cX10_fan 0 = .ok (.aload_n 0, 1) := by decide +kernel
theorem dX10_fan_1 : decode cX10_fan 1 = .ok (.invokevirtual 71, 3) := by decide +kernel
theorem dX10_fan_4 : decode cX10_fan 4 = .ok (.bipush (-9), 2) := by decide +kernel
theorem dX10_fan_6 : decode cX10_fan 6 = .ok (.if_icmp .eq 6, 3) := by decide +kernel
theorem dX10_fan_9 : decode cX10_fan 9 = .ok (.bipush (-3), 2) := by decide +kernel
theorem dX10_fan_11 : decode cX10_fan 11 = .ok (.ireturn, 1) := by decide +kernel
theorem dX10_fan_12 : decode cX10_fan 12 = .ok (.aload_n 0, 1) := by decide +kernel
theorem dX10_fan_13 : decode cX10_fan 13 = .ok (.aload_n 0, 1) := by decide +kernel
theorem dX10_fan_14 : decode cX10_fan 14 = .ok (.getfield 60, 3) := by decide +kernel
theorem dX10_fan_17 : decode cX10_fan 17 = .ok (.putfield 75, 3) := by decide +kernel
theorem dX10_fan_20 : decode cX10_fan 20 = .ok (.iconst 0, 1) := by decide +kernel
theorem dX10_fan_21 : decode cX10_fan 21 = .ok (.istore_n 1, 1) := by decide +kernel
theorem dX10_fan_22 : decode cX10_fan 22 = .ok (.iload_n 1, 1) := by decide +kernel
theorem dX10_fan_23 : decode cX10_fan 23 = .ok (.bipush 6, 2) := by decide +kernel
theorem dX10_fan_25 : decode cX10_fan 25 = .ok (.if_icmp .ge 21, 3) := by decide +kernel
theorem dX10_fan_28 : decode cX10_fan 28 = .ok (.aload_n 0, 1) := by decide +kernel
theorem dX10_fan_29 : decode cX10_fan 29 = .ok (.getfield 7, 3) := by decide +kernel
theorem dX10_fan_32 : decode cX10_fan 32 = .ok (.iload_n 1, 1) := by decide +kernel
theorem dX10_fan_33 : decode cX10_fan 33 = .ok (.aload_n 0, 1) := by decide +kernel
theorem dX10_fan_34 : decode cX10_fan 34 = .ok (.getfield 19, 3) := by decide +kernel
theorem dX10_fan_37 : decode cX10_fan 37 = .ok (.iload_n 1, 1) := by decide +kernel
theorem dX10_fan_38 : decode cX10_fan 38 = .ok (.iaload, 1) := by decide +kernel
theorem dX10_fan_39 : decode cX10_fan 39 = .ok (.iastore, 1) := by decide +kernel
theorem dX10_fan_40 : decode cX10_fan 40 = .ok (.iinc 1 1, 3) := by decide +kernel
theorem dX10_fan_43 : decode cX10_fan 43 = .ok (.goto (-21), 3) := by decide +kernel
theorem dX10_fan_46 : decode cX10_fan 46 = .ok (.iconst 0, 1) := by decide +kernel
theorem dX10_fan_47 : decode cX10_fan 47 = .ok (.istore_n 1, 1) := by decide +kernel
theorem dX10_fan_48 : decode cX10_fan 48 = .ok (.iload_n 1, 1) := by decide +kernel
theorem dX10_fan_49 : decode cX10_fan 49 = .ok (.bipush 48, 2) := by decide +kernel
theorem dX10_fan_51 : decode cX10_fan 51 = .ok (.if_icmp .ge 21, 3) := by decide +kernel
theorem dX10_fan_54 : decode cX10_fan 54 = .ok (.aload_n 0, 1) := by decide +kernel
theorem dX10_fan_55 : decode cX10_fan 55 = .ok (.getfield 13, 3) := by decide +kernel
theorem dX10_fan_58 : decode cX10_fan 58 = .ok (.iload_n 1, 1) := by decide +kernel
theorem dX10_fan_59 : decode cX10_fan 59 = .ok (.aload_n 0, 1) := by decide +kernel
theorem dX10_fan_60 : decode cX10_fan 60 = .ok (.getfield 22, 3) := by decide +kernel
theorem dX10_fan_63 : decode cX10_fan 63 = .ok (.iload_n 1, 1) := by decide +kernel
theorem dX10_fan_64 : decode cX10_fan 64 = .ok (.iaload, 1) := by decide +kernel
theorem dX10_fan_65 : decode cX10_fan 65 = .ok (.iastore, 1) := by decide +kernel
theorem dX10_fan_66 : decode cX10_fan 66 = .ok (.iinc 1 1, 3) := by decide +kernel
theorem dX10_fan_69 : decode cX10_fan 69 = .ok (.goto (-21), 3) := by decide +kernel
theorem dX10_fan_72 : decode cX10_fan 72 = .ok (.iconst 0, 1) := by decide +kernel
theorem dX10_fan_73 : decode cX10_fan 73 = .ok (.istore_n 1, 1) := by decide +kernel
theorem dX10_fan_74 : decode cX10_fan 74 = .ok (.iload_n 1, 1) := by decide +kernel
theorem dX10_fan_75 : decode cX10_fan 75 = .ok (.iconst 5, 1) := by decide +kernel
theorem dX10_fan_76 : decode cX10_fan 76 = .ok (.if_icmp .ge 16, 3) := by decide +kernel
theorem dX10_fan_79 : decode cX10_fan 79 = .ok (.aload_n 0, 1) := by decide +kernel
theorem dX10_fan_80 : decode cX10_fan 80 = .ok (.getfield 16, 3) := by decide +kernel
theorem dX10_fan_83 : decode cX10_fan 83 = .ok (.iload_n 1, 1) := by decide +kernel
theorem dX10_fan_84 : decode cX10_fan 84 = .ok (.iconst 0, 1) := by decide +kernel
theorem dX10_fan_85 : decode cX10_fan 85 = .ok (.iastore, 1) := by decide +kernel
theorem dX10_fan_86 : decode cX10_fan 86 = .ok (.iinc 1 1, 3) := by decide +kernel
theorem dX10_fan_89 : decode cX10_fan 89 = .ok (.goto (-15), 3) := by decide +kernel
theorem dX10_fan_92 : decode cX10_fan 92 = .ok (.aload_n 0, 1) := by decide +kernel
theorem dX10_fan_93 : decode cX10_fan 93 = .ok (.iconst 0, 1) := by decide +kernel
theorem dX10_fan_94 : decode cX10_fan 94 = .ok (.putfield 78, 3) := by decide +kernel
theorem dX10_fan_97 : decode cX10_fan 97 = .ok (.aload_n 0, 1) := by decide +kernel
theorem dX10_fan_98 : decode cX10_fan 98 = .ok (.getfield 43, 3) := by decide +kernel
theorem dX10_fan_101 : decode cX10_fan 101 = .ok (.iconst 0, 1) := by decide +kernel
theorem dX10_fan_102 : decode cX10_fan 102 = .ok (.iconst 0, 1) := by decide +kernel
theorem dX10_fan_103 : decode cX10_fan 103 = .ok (.bastore, 1) := by decide +kernel
theorem dX10_fan_104 : decode cX10_fan 104 = .ok (.aload_n 0, 1) := by decide +kernel
theorem dX10_fan_105 : decode cX10_fan 105 = .ok (.getfield 43, 3) := by decide +kernel
theorem dX10_fan_108 : decode cX10_fan 108 = .ok (.iconst 1, 1) := by decide +kernel
theorem dX10_fan_109 : decode cX10_fan 109 = .ok (.iconst 0, 1) := by decide +kernel
theorem dX10_fan_110 : decode cX10_fan 110 = .ok (.bastore, 1) := by decide +kernel
theorem dX10_fan_111 : decode cX10_fan 111 = .ok (.aload_n 0, 1) := by decide +kernel
theorem dX10_fan_112 : decode cX10_fan 112 = .ok (.getfield 75, 3) := by decide +kernel
theorem dX10_fan_115 : decode cX10_fan 115 = .ok (.ireturn, 1) := by decide +kernel
theorem dX10_isBlade_0 : decode cX10_isBlade 0 = .ok (.iload_n 1, 1) := by decide +kernel
theorem dX10_isBlade_1 : decode cX10_isBlade 1 = .ok (.i2l, 1) := by decide +kernel
theorem dX10_isBlade_2 : decode cX10_isBlade 2 = .ok (.lconst 0, 1) := by decide +kernel
theorem dX10_isBlade_3 : decode cX10_isBlade 3 = .ok (.aload_n 0, 1) := by decide +kernel
theorem dX10_isBlade_4 : decode cX10_isBlade 4 = .ok (.getfield 75, 3) := by decide +kernel
theorem dX10_isBlade_7 : decode cX10_isBlade 7 = .ok (.iconst 1, 1) := by decide +kernel
theorem dX10_isBlade_8 : decode cX10_isBlade 8 = .ok (.isub, 1) := by decide +kernel
theorem dX10_isBlade_9 : decode cX10_isBlade 9 = .ok (.i2l, 1) := by decide +kernel
theorem dX10_isBlade_10 : decode cX10_isBlade 10 = .ok (.invokestatic 52, 3) := by decide +kernel
theorem dX10_isBlade_13 : decode cX10_isBlade 13 = .ok (.ireturn, 1) := by decide +kernel
theorem dX10_gapMany_0 : decode cX10_gapMany 0 = .ok (.aload_n 0, 1) := by decide +kernel
theorem dX10_gapMany_1 : decode cX10_gapMany 1 = .ok (.getfield 75, 3) := by decide +kernel
theorem dX10_gapMany_4 : decode cX10_gapMany 4 = .ok (.ifCond .ne 7, 3) := by decide +kernel
theorem dX10_gapMany_7 : decode cX10_gapMany 7 = .ok (.iconst 0, 1) := by decide +kernel
theorem dX10_gapMany_8 : decode cX10_gapMany 8 = .ok (.goto 9, 3) := by decide +kernel
theorem dX10_gapMany_11 : decode cX10_gapMany 11 = .ok (.aload_n 0, 1) := by decide +kernel
theorem dX10_gapMany_12 : decode cX10_gapMany 12 = .ok (.getfield 75, 3) := by decide +kernel
theorem dX10_gapMany_15 : decode cX10_gapMany 15 = .ok (.iconst 1, 1) := by decide +kernel
theorem dX10_gapMany_16 : decode cX10_gapMany 16 = .ok (.isub, 1) := by decide +kernel
theorem dX10_gapMany_17 : decode cX10_gapMany 17 = .ok (.ireturn, 1) := by decide +kernel
theorem dX10_isGap_0 : decode cX10_isGap 0 = .ok (.iload_n 1, 1) := by decide +kernel
theorem dX10_isGap_1 : decode cX10_isGap 1 = .ok (.i2l, 1) := by decide +kernel
theorem dX10_isGap_2 : decode cX10_isGap 2 = .ok (.lconst 0, 1) := by decide +kernel
theorem dX10_isGap_3 : decode cX10_isGap 3 = .ok (.aload_n 0, 1) := by decide +kernel
theorem dX10_isGap_4 : decode cX10_isGap 4 = .ok (.invokevirtual 81, 3) := by decide +kernel
theorem dX10_isGap_7 : decode cX10_isGap 7 = .ok (.iconst 1, 1) := by decide +kernel
theorem dX10_isGap_8 : decode cX10_isGap 8 = .ok (.isub, 1) := by decide +kernel
theorem dX10_isGap_9 : decode cX10_isGap 9 = .ok (.i2l, 1) := by decide +kernel
theorem dX10_isGap_10 : decode cX10_isGap 10 = .ok (.invokestatic 52, 3) := by decide +kernel
theorem dX10_isGap_13 : decode cX10_isGap 13 = .ok (.ireturn, 1) := by decide +kernel
theorem dX10_isFree_0 : decode cX10_isFree 0 = .ok (.aload_n 0, 1) := by decide +kernel
theorem dX10_isFree_1 : decode cX10_isFree 1 = .ok (.getfield 7, 3) := by decide +kernel
theorem dX10_isFree_4 : decode cX10_isFree 4 = .ok (.iload_n 1, 1) := by decide +kernel
theorem dX10_isFree_5 : decode cX10_isFree 5 = .ok (.iaload, 1) := by decide +kernel
theorem dX10_isFree_6 : decode cX10_isFree 6 = .ok (.iconst 3, 1) := by decide +kernel
theorem dX10_isFree_7 : decode cX10_isFree 7 = .ok (.if_icmp .eq 7, 3) := by decide +kernel
theorem dX10_isFree_10 : decode cX10_isFree 10 = .ok (.iconst 1, 1) := by decide +kernel
theorem dX10_isFree_11 : decode cX10_isFree 11 = .ok (.goto 4, 3) := by decide +kernel
theorem dX10_isFree_14 : decode cX10_isFree 14 = .ok (.iconst 0, 1) := by decide +kernel
theorem dX10_isFree_15 : decode cX10_isFree 15 = .ok (.ireturn, 1) := by decide +kernel
theorem dX10_hundredTo_0 : decode cX10_hundredTo 0 = .ok (.lconst 1, 1) := by decide +kernel
theorem dX10_hundredTo_1 : decode cX10_hundredTo 1 = .ok (.lstore_n 1, 1) := by decide +kernel
theorem dX10_hundredTo_2 : decode cX10_hundredTo 2 = .ok (.iconst 0, 1) := by decide +kernel
theorem dX10_hundredTo_3 : decode cX10_hundredTo 3 = .ok (.istore_n 3, 1) := by decide +kernel
theorem dX10_hundredTo_4 : decode cX10_hundredTo 4 = .ok (.iload_n 3, 1) := by decide +kernel
theorem dX10_hundredTo_5 : decode cX10_hundredTo 5 = .ok (.iload_n 0, 1) := by decide +kernel
theorem dX10_hundredTo_6 : decode cX10_hundredTo 6 = .ok (.if_icmp .ge 15, 3) := by decide +kernel
theorem dX10_hundredTo_9 : decode cX10_hundredTo 9 = .ok (.lload_n 1, 1) := by decide +kernel
theorem dX10_hundredTo_10 : decode cX10_hundredTo 10 = .ok (.ldc2_w 84, 3) := by decide +kernel
theorem dX10_hundredTo_13 : decode cX10_hundredTo 13 = .ok (.lmul, 1) := by decide +kernel
theorem dX10_hundredTo_14 : decode cX10_hundredTo 14 = .ok (.lstore_n 1, 1) := by decide +kernel
theorem dX10_hundredTo_15 : decode cX10_hundredTo 15 = .ok (.iinc 3 1, 3) := by decide +kernel
theorem dX10_hundredTo_18 : decode cX10_hundredTo 18 = .ok (.goto (-14), 3) := by decide +kernel
theorem dX10_hundredTo_21 : decode cX10_hundredTo 21 = .ok (.lload_n 1, 1) := by decide +kernel
theorem dX10_hundredTo_22 : decode cX10_hundredTo 22 = .ok (.lreturn, 1) := by decide +kernel
theorem dX10_word_0 : decode cX10_word 0 = .ok (.iload_n 1, 1) := by decide +kernel
theorem dX10_word_1 : decode cX10_word 1 = .ok (.i2l, 1) := by decide +kernel
theorem dX10_word_2 : decode cX10_word 2 = .ok (.lconst 0, 1) := by decide +kernel
theorem dX10_word_3 : decode cX10_word 3 = .ok (.ldc2_w 86, 3) := by decide +kernel
theorem dX10_word_6 : decode cX10_word 6 = .ok (.invokestatic 52, 3) := by decide +kernel
theorem dX10_word_9 : decode cX10_word 9 = .ok (.ifCond .eq 17, 3) := by decide +kernel
theorem dX10_word_12 : decode cX10_word 12 = .ok (.lload_n 2, 1) := by decide +kernel
theorem dX10_word_13 : decode cX10_word 13 = .ok (.lconst 0, 1) := by decide +kernel
theorem dX10_word_14 : decode cX10_word 14 = .ok (.iload_n 1, 1) := by decide +kernel
theorem dX10_word_15 : decode cX10_word 15 = .ok (.invokestatic 88, 3) := by decide +kernel
theorem dX10_word_18 : decode cX10_word 18 = .ok (.lconst 1, 1) := by decide +kernel
theorem dX10_word_19 : decode cX10_word 19 = .ok (.lsub, 1) := by decide +kernel
theorem dX10_word_20 : decode cX10_word 20 = .ok (.invokestatic 52, 3) := by decide +kernel
theorem dX10_word_23 : decode cX10_word 23 = .ok (.ifCond .ne 6, 3) := by decide +kernel
theorem dX10_word_26 : decode cX10_word 26 = .ok (.bipush (-2), 2) := by decide +kernel
theorem dX10_word_28 : decode cX10_word 28 = .ok (.ireturn, 1) := by decide +kernel
theorem dX10_word_29 : decode cX10_word 29 = .ok (.iconst 0, 1) := by decide +kernel
theorem dX10_word_30 : decode cX10_word 30 = .ok (.istore 4, 2) := by decide +kernel
theorem dX10_word_32 : decode cX10_word 32 = .ok (.iload 4, 2) := by decide +kernel
theorem dX10_word_34 : decode cX10_word 34 = .ok (.iload_n 1, 1) := by decide +kernel
theorem dX10_word_35 : decode cX10_word 35 = .ok (.if_icmp .ge 30, 3) := by decide +kernel
theorem dX10_word_38 : decode cX10_word 38 = .ok (.lload_n 2, 1) := by decide +kernel
theorem dX10_word_39 : decode cX10_word 39 = .ok (.iload 4, 2) := by decide +kernel
theorem dX10_word_41 : decode cX10_word 41 = .ok (.invokestatic 88, 3) := by decide +kernel
theorem dX10_word_44 : decode cX10_word 44 = .ok (.ldiv, 1) := by decide +kernel
theorem dX10_word_45 : decode cX10_word 45 = .ok (.ldc2_w 84, 3) := by decide +kernel
theorem dX10_word_48 : decode cX10_word 48 = .ok (.lrem, 1) := by decide +kernel
theorem dX10_word_49 : decode cX10_word 49 = .ok (.ldc2_w 92, 3) := by decide +kernel
theorem dX10_word_52 : decode cX10_word 52 = .ok (.lcmp, 1) := by decide +kernel
theorem dX10_word_53 : decode cX10_word 53 = .ok (.ifCond .le 6, 3) := by decide +kernel
theorem dX10_word_56 : decode cX10_word 56 = .ok (.bipush (-2), 2) := by decide +kernel
theorem dX10_word_58 : decode cX10_word 58 = .ok (.ireturn, 1) := by decide +kernel
theorem dX10_word_59 : decode cX10_word 59 = .ok (.iinc 4 1, 3) := by decide +kernel
theorem dX10_word_62 : decode cX10_word 62 = .ok (.goto (-30), 3) := by decide +kernel
theorem dX10_word_65 : decode cX10_word 65 = .ok (.aload_n 0, 1) := by decide +kernel
theorem dX10_word_66 : decode cX10_word 66 = .ok (.getfield 94, 3) := by decide +kernel
theorem dX10_word_69 : decode cX10_word 69 = .ok (.istore 4, 2) := by decide +kernel
theorem dX10_word_71 : decode cX10_word 71 = .ok (.aload_n 0, 1) := by decide +kernel
theorem dX10_word_72 : decode cX10_word 72 = .ok (.iload_n 1, 1) := by decide +kernel
theorem dX10_word_73 : decode cX10_word 73 = .ok (.putfield 94, 3) := by decide +kernel
theorem dX10_word_76 : decode cX10_word 76 = .ok (.iconst 0, 1) := by decide +kernel
theorem dX10_word_77 : decode cX10_word 77 = .ok (.istore 5, 2) := by decide +kernel
theorem dX10_word_79 : decode cX10_word 79 = .ok (.iload 5, 2) := by decide +kernel
theorem dX10_word_81 : decode cX10_word 81 = .ok (.iload_n 1, 1) := by decide +kernel
theorem dX10_word_82 : decode cX10_word 82 = .ok (.if_icmp .ge 32, 3) := by decide +kernel
theorem dX10_word_85 : decode cX10_word 85 = .ok (.aload_n 0, 1) := by decide +kernel
theorem dX10_word_86 : decode cX10_word 86 = .ok (.getfield 28, 3) := by decide +kernel
theorem dX10_word_89 : decode cX10_word 89 = .ok (.iload 5, 2) := by decide +kernel
theorem dX10_word_91 : decode cX10_word 91 = .ok (.lload_n 2, 1) := by decide +kernel
theorem dX10_word_92 : decode cX10_word 92 = .ok (.iload_n 1, 1) := by decide +kernel
theorem dX10_word_93 : decode cX10_word 93 = .ok (.iconst 1, 1) := by decide +kernel
theorem dX10_word_94 : decode cX10_word 94 = .ok (.isub, 1) := by decide +kernel
theorem dX10_word_95 : decode cX10_word 95 = .ok (.iload 5, 2) := by decide +kernel
theorem dX10_word_97 : decode cX10_word 97 = .ok (.isub, 1) := by decide +kernel
theorem dX10_word_98 : decode cX10_word 98 = .ok (.invokestatic 88, 3) := by decide +kernel
theorem dX10_word_101 : decode cX10_word 101 = .ok (.ldiv, 1) := by decide +kernel
theorem dX10_word_102 : decode cX10_word 102 = .ok (.ldc2_w 84, 3) := by decide +kernel
theorem dX10_word_105 : decode cX10_word 105 = .ok (.lrem, 1) := by decide +kernel
theorem dX10_word_106 : decode cX10_word 106 = .ok (.l2i, 1) := by decide +kernel
theorem dX10_word_107 : decode cX10_word 107 = .ok (.iastore, 1) := by decide +kernel
theorem dX10_word_108 : decode cX10_word 108 = .ok (.iinc 5 1, 3) := by decide +kernel
theorem dX10_word_111 : decode cX10_word 111 = .ok (.goto (-32), 3) := by decide +kernel
theorem dX10_word_114 : decode cX10_word 114 = .ok (.iload 4, 2) := by decide +kernel
theorem dX10_word_116 : decode cX10_word 116 = .ok (.ireturn, 1) := by decide +kernel
theorem dX10_beginOf_0 : decode cX10_beginOf 0 = .ok (.iconst 0, 1) := by decide +kernel
theorem dX10_beginOf_1 : decode cX10_beginOf 1 = .ok (.istore_n 3, 1) := by decide +kernel
theorem dX10_beginOf_2 : decode cX10_beginOf 2 = .ok (.iconst 0, 1) := by decide +kernel
theorem dX10_beginOf_3 : decode cX10_beginOf 3 = .ok (.istore 4, 2) := by decide +kernel
theorem dX10_beginOf_5 : decode cX10_beginOf 5 = .ok (.iload 4, 2) := by decide +kernel
theorem dX10_beginOf_7 : decode cX10_beginOf 7 = .ok (.iload_n 2, 1) := by decide +kernel
theorem dX10_beginOf_8 : decode cX10_beginOf 8 = .ok (.if_icmp .ge 23, 3) := by decide +kernel
theorem dX10_beginOf_11 : decode cX10_beginOf 11 = .ok (.iload_n 3, 1) := by decide +kernel
theorem dX10_beginOf_12 : decode cX10_beginOf 12 = .ok (.aload_n 0, 1) := by decide +kernel
theorem dX10_beginOf_13 : decode cX10_beginOf 13 = .ok (.getfield 16, 3) := by decide +kernel
theorem dX10_beginOf_16 : decode cX10_beginOf 16 = .ok (.iconst 5, 1) := by decide +kernel
theorem dX10_beginOf_17 : decode cX10_beginOf 17 = .ok (.iload_n 1, 1) := by decide +kernel
theorem dX10_beginOf_18 : decode cX10_beginOf 18 = .ok (.imul, 1) := by decide +kernel
theorem dX10_beginOf_19 : decode cX10_beginOf 19 = .ok (.iload 4, 2) := by decide +kernel
theorem dX10_beginOf_21 : decode cX10_beginOf 21 = .ok (.iadd, 1) := by decide +kernel
theorem dX10_beginOf_22 : decode cX10_beginOf 22 = .ok (.iaload, 1) := by decide +kernel
theorem dX10_beginOf_23 : decode cX10_beginOf 23 = .ok (.iadd, 1) := by decide +kernel
theorem dX10_beginOf_24 : decode cX10_beginOf 24 = .ok (.istore_n 3, 1) := by decide +kernel
theorem dX10_beginOf_25 : decode cX10_beginOf 25 = .ok (.iinc 4 1, 3) := by decide +kernel
theorem dX10_beginOf_28 : decode cX10_beginOf 28 = .ok (.goto (-23), 3) := by decide +kernel
theorem dX10_beginOf_31 : decode cX10_beginOf 31 = .ok (.iload_n 3, 1) := by decide +kernel
theorem dX10_beginOf_32 : decode cX10_beginOf 32 = .ok (.ireturn, 1) := by decide +kernel
theorem dX10_wideOf_0 : decode cX10_wideOf 0 = .ok (.aload_n 0, 1) := by decide +kernel
theorem dX10_wideOf_1 : decode cX10_wideOf 1 = .ok (.getfield 7, 3) := by decide +kernel
theorem dX10_wideOf_4 : decode cX10_wideOf 4 = .ok (.iload_n 1, 1) := by decide +kernel
theorem dX10_wideOf_5 : decode cX10_wideOf 5 = .ok (.iaload, 1) := by decide +kernel
theorem dX10_wideOf_6 : decode cX10_wideOf 6 = .ok (.iconst 2, 1) := by decide +kernel
theorem dX10_wideOf_7 : decode cX10_wideOf 7 = .ok (.if_icmp .ne 7, 3) := by decide +kernel
theorem dX10_wideOf_10 : decode cX10_wideOf 10 = .ok (.iconst 2, 1) := by decide +kernel
theorem dX10_wideOf_11 : decode cX10_wideOf 11 = .ok (.goto 4, 3) := by decide +kernel
theorem dX10_wideOf_14 : decode cX10_wideOf 14 = .ok (.iconst 4, 1) := by decide +kernel
theorem dX10_wideOf_15 : decode cX10_wideOf 15 = .ok (.ireturn, 1) := by decide +kernel
theorem dX10_cellAt_0 : decode cX10_cellAt 0 = .ok (.iload_n 3, 1) := by decide +kernel
theorem dX10_cellAt_1 : decode cX10_cellAt 1 = .ok (.aload_n 0, 1) := by decide +kernel
theorem dX10_cellAt_2 : decode cX10_cellAt 2 = .ok (.iload_n 1, 1) := by decide +kernel
theorem dX10_cellAt_3 : decode cX10_cellAt 3 = .ok (.iload_n 2, 1) := by decide +kernel
theorem dX10_cellAt_4 : decode cX10_cellAt 4 = .ok (.invokevirtual 97, 3) := by decide +kernel
theorem dX10_cellAt_7 : decode cX10_cellAt 7 = .ok (.isub, 1) := by decide +kernel
theorem dX10_cellAt_8 : decode cX10_cellAt 8 = .ok (.istore 4, 2) := by decide +kernel
theorem dX10_cellAt_10 : decode cX10_cellAt 10 = .ok (.iload 4, 2) := by decide +kernel
theorem dX10_cellAt_12 : decode cX10_cellAt 12 = .ok (.i2l, 1) := by decide +kernel
theorem dX10_cellAt_13 : decode cX10_cellAt 13 = .ok (.lconst 0, 1) := by decide +kernel
theorem dX10_cellAt_14 : decode cX10_cellAt 14 = .ok (.aload_n 0, 1) := by decide +kernel
theorem dX10_cellAt_15 : decode cX10_cellAt 15 = .ok (.iload_n 2, 1) := by decide +kernel
theorem dX10_cellAt_16 : decode cX10_cellAt 16 = .ok (.invokevirtual 101, 3) := by decide +kernel
theorem dX10_cellAt_19 : decode cX10_cellAt 19 = .ok (.iconst 1, 1) := by decide +kernel
theorem dX10_cellAt_20 : decode cX10_cellAt 20 = .ok (.isub, 1) := by decide +kernel
theorem dX10_cellAt_21 : decode cX10_cellAt 21 = .ok (.i2l, 1) := by decide +kernel
theorem dX10_cellAt_22 : decode cX10_cellAt 22 = .ok (.invokestatic 52, 3) := by decide +kernel
theorem dX10_cellAt_25 : decode cX10_cellAt 25 = .ok (.ifCond .eq 21, 3) := by decide +kernel
theorem dX10_cellAt_28 : decode cX10_cellAt 28 = .ok (.aload_n 0, 1) := by decide +kernel
theorem dX10_cellAt_29 : decode cX10_cellAt 29 = .ok (.getfield 7, 3) := by decide +kernel
theorem dX10_cellAt_32 : decode cX10_cellAt 32 = .ok (.iload_n 2, 1) := by decide +kernel
theorem dX10_cellAt_33 : decode cX10_cellAt 33 = .ok (.iaload, 1) := by decide +kernel
theorem dX10_cellAt_34 : decode cX10_cellAt 34 = .ok (.iconst 1, 1) := by decide +kernel
theorem dX10_cellAt_35 : decode cX10_cellAt 35 = .ok (.if_icmp .ne 14, 3) := by decide +kernel
theorem dX10_cellAt_38 : decode cX10_cellAt 38 = .ok (.iload 4, 2) := by decide +kernel
theorem dX10_cellAt_40 : decode cX10_cellAt 40 = .ok (.iconst 2, 1) := by decide +kernel
theorem dX10_cellAt_41 : decode cX10_cellAt 41 = .ok (.irem, 1) := by decide +kernel
theorem dX10_cellAt_42 : decode cX10_cellAt 42 = .ok (.iconst 1, 1) := by decide +kernel
theorem dX10_cellAt_43 : decode cX10_cellAt 43 = .ok (.if_icmp .ne 6, 3) := by decide +kernel
theorem dX10_cellAt_46 : decode cX10_cellAt 46 = .ok (.bipush (-9), 2) := by decide +kernel
theorem dX10_cellAt_48 : decode cX10_cellAt 48 = .ok (.ireturn, 1) := by decide +kernel
theorem dX10_cellAt_49 : decode cX10_cellAt 49 = .ok (.iload 4, 2) := by decide +kernel
theorem dX10_cellAt_51 : decode cX10_cellAt 51 = .ok (.ireturn, 1) := by decide +kernel
theorem dX10_bladeAt_0 : decode cX10_bladeAt 0 = .ok (.bipush (-9), 2) := by decide +kernel
theorem dX10_bladeAt_2 : decode cX10_bladeAt 2 = .ok (.istore 5, 2) := by decide +kernel
theorem dX10_bladeAt_4 : decode cX10_bladeAt 4 = .ok (.iconst 0, 1) := by decide +kernel
theorem dX10_bladeAt_5 : decode cX10_bladeAt 5 = .ok (.istore 6, 2) := by decide +kernel
theorem dX10_bladeAt_7 : decode cX10_bladeAt 7 = .ok (.iload 6, 2) := by decide +kernel
theorem dX10_bladeAt_9 : decode cX10_bladeAt 9 = .ok (.aload_n 0, 1) := by decide +kernel
theorem dX10_bladeAt_10 : decode cX10_bladeAt 10 = .ok (.getfield 75, 3) := by decide +kernel
theorem dX10_bladeAt_13 : decode cX10_bladeAt 13 = .ok (.if_icmp .ge 61, 3) := by decide +kernel
theorem dX10_bladeAt_16 : decode cX10_bladeAt 16 = .ok (.iload 4, 2) := by decide +kernel
theorem dX10_bladeAt_18 : decode cX10_bladeAt 18 = .ok (.ifCond .ne 8, 3) := by decide +kernel
theorem dX10_bladeAt_21 : decode cX10_bladeAt 21 = .ok (.iload 6, 2) := by decide +kernel
theorem dX10_bladeAt_23 : decode cX10_bladeAt 23 = .ok (.goto 12, 3) := by decide +kernel
theorem dX10_bladeAt_26 : decode cX10_bladeAt 26 = .ok (.aload_n 0, 1) := by decide +kernel
theorem dX10_bladeAt_27 : decode cX10_bladeAt 27 = .ok (.getfield 75, 3) := by decide +kernel
theorem dX10_bladeAt_30 : decode cX10_bladeAt 30 = .ok (.iconst 1, 1) := by decide +kernel
theorem dX10_bladeAt_31 : decode cX10_bladeAt 31 = .ok (.isub, 1) := by decide +kernel
theorem dX10_bladeAt_32 : decode cX10_bladeAt 32 = .ok (.iload 6, 2) := by decide +kernel
theorem dX10_bladeAt_34 : decode cX10_bladeAt 34 = .ok (.isub, 1) := by decide +kernel
theorem dX10_bladeAt_35 : decode cX10_bladeAt 35 = .ok (.istore 7, 2) := by decide +kernel
theorem dX10_bladeAt_37 : decode cX10_bladeAt 37 = .ok (.iload_n 2, 1) := by decide +kernel
theorem dX10_bladeAt_38 : decode cX10_bladeAt 38 = .ok (.iload 7, 2) := by decide +kernel
theorem dX10_bladeAt_40 : decode cX10_bladeAt 40 = .ok (.invokestatic 105, 3) := by decide +kernel
theorem dX10_bladeAt_43 : decode cX10_bladeAt 43 = .ok (.ifCond .eq 21, 3) := by decide +kernel
theorem dX10_bladeAt_46 : decode cX10_bladeAt 46 = .ok (.aload_n 0, 1) := by decide +kernel
theorem dX10_bladeAt_47 : decode cX10_bladeAt 47 = .ok (.iload_n 1, 1) := by decide +kernel
theorem dX10_bladeAt_48 : decode cX10_bladeAt 48 = .ok (.iload 7, 2) := by decide +kernel
theorem dX10_bladeAt_50 : decode cX10_bladeAt 50 = .ok (.iload_n 3, 1) := by decide +kernel
theorem dX10_bladeAt_51 : decode cX10_bladeAt 51 = .ok (.invokevirtual 109, 3) := by decide +kernel
theorem dX10_bladeAt_54 : decode cX10_bladeAt 54 = .ok (.bipush (-9), 2) := by decide +kernel
theorem dX10_bladeAt_56 : decode cX10_bladeAt 56 = .ok (.if_icmp .eq 8, 3) := by decide +kernel
theorem dX10_bladeAt_59 : decode cX10_bladeAt 59 = .ok (.iload 7, 2) := by decide +kernel
theorem dX10_bladeAt_61 : decode cX10_bladeAt 61 = .ok (.goto 5, 3) := by decide +kernel
theorem dX10_bladeAt_64 : decode cX10_bladeAt 64 = .ok (.iload 5, 2) := by decide +kernel
theorem dX10_bladeAt_66 : decode cX10_bladeAt 66 = .ok (.istore 5, 2) := by decide +kernel
theorem dX10_bladeAt_68 : decode cX10_bladeAt 68 = .ok (.iinc 6 1, 3) := by decide +kernel
theorem dX10_bladeAt_71 : decode cX10_bladeAt 71 = .ok (.goto (-64), 3) := by decide +kernel
theorem dX10_bladeAt_74 : decode cX10_bladeAt 74 = .ok (.iload 5, 2) := by decide +kernel
theorem dX10_bladeAt_76 : decode cX10_bladeAt 76 = .ok (.ireturn, 1) := by decide +kernel
theorem dX10_letterAt_0 : decode cX10_letterAt 0 = .ok (.iload_n 3, 1) := by decide +kernel
theorem dX10_letterAt_1 : decode cX10_letterAt 1 = .ok (.i2l, 1) := by decide +kernel
theorem dX10_letterAt_2 : decode cX10_letterAt 2 = .ok (.lconst 0, 1) := by decide +kernel
theorem dX10_letterAt_3 : decode cX10_letterAt 3 = .ok (.ldc2_w 113, 3) := by decide +kernel
theorem dX10_letterAt_6 : decode cX10_letterAt 6 = .ok (.invokestatic 52, 3) := by decide +kernel
theorem dX10_letterAt_9 : decode cX10_letterAt 9 = .ok (.ifCond .eq 15, 3) := by decide +kernel
theorem dX10_letterAt_12 : decode cX10_letterAt 12 = .ok (.aload_n 0, 1) := by decide +kernel
theorem dX10_letterAt_13 : decode cX10_letterAt 13 = .ok (.iload_n 1, 1) := by decide +kernel
theorem dX10_letterAt_14 : decode cX10_letterAt 14 = .ok (.iload_n 2, 1) := by decide +kernel
theorem dX10_letterAt_15 : decode cX10_letterAt 15 = .ok (.iload_n 3, 1) := by decide +kernel
theorem dX10_letterAt_16 : decode cX10_letterAt 16 = .ok (.iload 4, 2) := by decide +kernel
theorem dX10_letterAt_18 : decode cX10_letterAt 18 = .ok (.invokevirtual 115, 3) := by decide +kernel
theorem dX10_letterAt_21 : decode cX10_letterAt 21 = .ok (.goto 5, 3) := by decide +kernel
theorem dX10_letterAt_24 : decode cX10_letterAt 24 = .ok (.bipush (-9), 2) := by decide +kernel
theorem dX10_letterAt_26 : decode cX10_letterAt 26 = .ok (.istore 5, 2) := by decide +kernel
theorem dX10_letterAt_28 : decode cX10_letterAt 28 = .ok (.iload 5, 2) := by decide +kernel
theorem dX10_letterAt_30 : decode cX10_letterAt 30 = .ok (.bipush (-9), 2) := by decide +kernel
theorem dX10_letterAt_32 : decode cX10_letterAt 32 = .ok (.if_icmp .ne 8, 3) := by decide +kernel
theorem dX10_letterAt_35 : decode cX10_letterAt 35 = .ok (.bipush (-9), 2) := by decide +kernel
theorem dX10_letterAt_37 : decode cX10_letterAt 37 = .ok (.goto 27, 3) := by decide +kernel
theorem dX10_letterAt_40 : decode cX10_letterAt 40 = .ok (.aload_n 0, 1) := by decide +kernel
theorem dX10_letterAt_41 : decode cX10_letterAt 41 = .ok (.getfield 13, 3) := by decide +kernel
theorem dX10_letterAt_44 : decode cX10_letterAt 44 = .ok (.bipush 8, 2) := by decide +kernel
theorem dX10_letterAt_46 : decode cX10_letterAt 46 = .ok (.iload 5, 2) := by decide +kernel
theorem dX10_letterAt_48 : decode cX10_letterAt 48 = .ok (.imul, 1) := by decide +kernel
theorem dX10_letterAt_49 : decode cX10_letterAt 49 = .ok (.iconst 4, 1) := by decide +kernel
theorem dX10_letterAt_50 : decode cX10_letterAt 50 = .ok (.iload 4, 2) := by decide +kernel
theorem dX10_letterAt_52 : decode cX10_letterAt 52 = .ok (.imul, 1) := by decide +kernel
theorem dX10_letterAt_53 : decode cX10_letterAt 53 = .ok (.iadd, 1) := by decide +kernel
theorem dX10_letterAt_54 : decode cX10_letterAt 54 = .ok (.aload_n 0, 1) := by decide +kernel
theorem dX10_letterAt_55 : decode cX10_letterAt 55 = .ok (.iload_n 1, 1) := by decide +kernel
theorem dX10_letterAt_56 : decode cX10_letterAt 56 = .ok (.iload 5, 2) := by decide +kernel
theorem dX10_letterAt_58 : decode cX10_letterAt 58 = .ok (.iload_n 3, 1) := by decide +kernel
theorem dX10_letterAt_59 : decode cX10_letterAt 59 = .ok (.invokevirtual 109, 3) := by decide +kernel
theorem dX10_letterAt_62 : decode cX10_letterAt 62 = .ok (.iadd, 1) := by decide +kernel
theorem dX10_letterAt_63 : decode cX10_letterAt 63 = .ok (.iaload, 1) := by decide +kernel
theorem dX10_letterAt_64 : decode cX10_letterAt 64 = .ok (.ireturn, 1) := by decide +kernel
theorem dX10_cellsSeen_0 : decode cX10_cellsSeen 0 = .ok (.iconst 0, 1) := by decide +kernel
theorem dX10_cellsSeen_1 : decode cX10_cellsSeen 1 = .ok (.istore 4, 2) := by decide +kernel
theorem dX10_cellsSeen_3 : decode cX10_cellsSeen 3 = .ok (.iconst 0, 1) := by decide +kernel
theorem dX10_cellsSeen_4 : decode cX10_cellsSeen 4 = .ok (.istore 5, 2) := by decide +kernel
theorem dX10_cellsSeen_6 : decode cX10_cellsSeen 6 = .ok (.iload 5, 2) := by decide +kernel
theorem dX10_cellsSeen_8 : decode cX10_cellsSeen 8 = .ok (.bipush 28, 2) := by decide +kernel
theorem dX10_cellsSeen_10 : decode cX10_cellsSeen 10 = .ok (.if_icmp .ge 33, 3) := by decide +kernel
theorem dX10_cellsSeen_13 : decode cX10_cellsSeen 13 = .ok (.iload 4, 2) := by decide +kernel
theorem dX10_cellsSeen_15 : decode cX10_cellsSeen 15 = .ok (.aload_n 0, 1) := by decide +kernel
theorem dX10_cellsSeen_16 : decode cX10_cellsSeen 16 = .ok (.iload_n 1, 1) := by decide +kernel
theorem dX10_cellsSeen_17 : decode cX10_cellsSeen 17 = .ok (.bipush 63, 2) := by decide +kernel
theorem dX10_cellsSeen_19 : decode cX10_cellsSeen 19 = .ok (.iload 5, 2) := by decide +kernel
theorem dX10_cellsSeen_21 : decode cX10_cellsSeen 21 = .ok (.iload_n 3, 1) := by decide +kernel
theorem dX10_cellsSeen_22 : decode cX10_cellsSeen 22 = .ok (.invokevirtual 115, 3) := by decide +kernel
theorem dX10_cellsSeen_25 : decode cX10_cellsSeen 25 = .ok (.iload_n 2, 1) := by decide +kernel
theorem dX10_cellsSeen_26 : decode cX10_cellsSeen 26 = .ok (.if_icmp .ne 7, 3) := by decide +kernel
theorem dX10_cellsSeen_29 : decode cX10_cellsSeen 29 = .ok (.iconst 1, 1) := by decide +kernel
theorem dX10_cellsSeen_30 : decode cX10_cellsSeen 30 = .ok (.goto 4, 3) := by decide +kernel
theorem dX10_cellsSeen_33 : decode cX10_cellsSeen 33 = .ok (.iconst 0, 1) := by decide +kernel
theorem dX10_cellsSeen_34 : decode cX10_cellsSeen 34 = .ok (.iadd, 1) := by decide +kernel
theorem dX10_cellsSeen_35 : decode cX10_cellsSeen 35 = .ok (.istore 4, 2) := by decide +kernel
theorem dX10_cellsSeen_37 : decode cX10_cellsSeen 37 = .ok (.iinc 5 1, 3) := by decide +kernel
theorem dX10_cellsSeen_40 : decode cX10_cellsSeen 40 = .ok (.goto (-34), 3) := by decide +kernel
theorem dX10_cellsSeen_43 : decode cX10_cellsSeen 43 = .ok (.iload 4, 2) := by decide +kernel
theorem dX10_cellsSeen_45 : decode cX10_cellsSeen 45 = .ok (.ireturn, 1) := by decide +kernel
theorem dX10_wide_0 : decode cX10_wide 0 = .ok (.iconst 0, 1) := by decide +kernel
theorem dX10_wide_1 : decode cX10_wide 1 = .ok (.istore_n 2, 1) := by decide +kernel
theorem dX10_wide_2 : decode cX10_wide 2 = .ok (.iconst 0, 1) := by decide +kernel
theorem dX10_wide_3 : decode cX10_wide 3 = .ok (.istore_n 3, 1) := by decide +kernel
theorem dX10_wide_4 : decode cX10_wide 4 = .ok (.iload_n 3, 1) := by decide +kernel
theorem dX10_wide_5 : decode cX10_wide 5 = .ok (.bipush 28, 2) := by decide +kernel
theorem dX10_wide_7 : decode cX10_wide 7 = .ok (.if_icmp .ge 31, 3) := by decide +kernel
theorem dX10_wide_10 : decode cX10_wide 10 = .ok (.aload_n 0, 1) := by decide +kernel
theorem dX10_wide_11 : decode cX10_wide 11 = .ok (.iload_n 1, 1) := by decide +kernel
theorem dX10_wide_12 : decode cX10_wide 12 = .ok (.bipush 63, 2) := by decide +kernel
theorem dX10_wide_14 : decode cX10_wide 14 = .ok (.iload_n 3, 1) := by decide +kernel
theorem dX10_wide_15 : decode cX10_wide 15 = .ok (.iconst 0, 1) := by decide +kernel
theorem dX10_wide_16 : decode cX10_wide 16 = .ok (.invokevirtual 115, 3) := by decide +kernel
theorem dX10_wide_19 : decode cX10_wide 19 = .ok (.bipush (-9), 2) := by decide +kernel
theorem dX10_wide_21 : decode cX10_wide 21 = .ok (.if_icmp .ne 7, 3) := by decide +kernel
theorem dX10_wide_24 : decode cX10_wide 24 = .ok (.iload_n 2, 1) := by decide +kernel
theorem dX10_wide_25 : decode cX10_wide 25 = .ok (.goto 6, 3) := by decide +kernel
theorem dX10_wide_28 : decode cX10_wide 28 = .ok (.iload_n 3, 1) := by decide +kernel
theorem dX10_wide_29 : decode cX10_wide 29 = .ok (.iconst 1, 1) := by decide +kernel
theorem dX10_wide_30 : decode cX10_wide 30 = .ok (.iadd, 1) := by decide +kernel
theorem dX10_wide_31 : decode cX10_wide 31 = .ok (.istore_n 2, 1) := by decide +kernel
theorem dX10_wide_32 : decode cX10_wide 32 = .ok (.iinc 3 1, 3) := by decide +kernel
theorem dX10_wide_35 : decode cX10_wide 35 = .ok (.goto (-31), 3) := by decide +kernel
theorem dX10_wide_38 : decode cX10_wide 38 = .ok (.iload_n 2, 1) := by decide +kernel
theorem dX10_wide_39 : decode cX10_wide 39 = .ok (.ireturn, 1) := by decide +kernel
theorem dX10_placesSeen_0 : decode cX10_placesSeen 0 = .ok (.iconst 0, 1) := by decide +kernel
theorem dX10_placesSeen_1 : decode cX10_placesSeen 1 = .ok (.istore_n 3, 1) := by decide +kernel
theorem dX10_placesSeen_2 : decode cX10_placesSeen 2 = .ok (.iconst 0, 1) := by decide +kernel
theorem dX10_placesSeen_3 : decode cX10_placesSeen 3 = .ok (.istore 4, 2) := by decide +kernel
theorem dX10_placesSeen_5 : decode cX10_placesSeen 5 = .ok (.iload 4, 2) := by decide +kernel
theorem dX10_placesSeen_7 : decode cX10_placesSeen 7 = .ok (.bipush 28, 2) := by decide +kernel
theorem dX10_placesSeen_9 : decode cX10_placesSeen 9 = .ok (.if_icmp .ge 31, 3) := by decide +kernel
theorem dX10_placesSeen_12 : decode cX10_placesSeen 12 = .ok (.iload_n 3, 1) := by decide +kernel
theorem dX10_placesSeen_13 : decode cX10_placesSeen 13 = .ok (.aload_n 0, 1) := by decide +kernel
theorem dX10_placesSeen_14 : decode cX10_placesSeen 14 = .ok (.iload_n 1, 1) := by decide +kernel
theorem dX10_placesSeen_15 : decode cX10_placesSeen 15 = .ok (.iload_n 2, 1) := by decide +kernel
theorem dX10_placesSeen_16 : decode cX10_placesSeen 16 = .ok (.iload 4, 2) := by decide +kernel
theorem dX10_placesSeen_18 : decode cX10_placesSeen 18 = .ok (.iconst 0, 1) := by decide +kernel
theorem dX10_placesSeen_19 : decode cX10_placesSeen 19 = .ok (.invokevirtual 115, 3) := by decide +kernel
theorem dX10_placesSeen_22 : decode cX10_placesSeen 22 = .ok (.bipush (-9), 2) := by decide +kernel
theorem dX10_placesSeen_24 : decode cX10_placesSeen 24 = .ok (.if_icmp .ne 7, 3) := by decide +kernel
theorem dX10_placesSeen_27 : decode cX10_placesSeen 27 = .ok (.iconst 0, 1) := by decide +kernel
theorem dX10_placesSeen_28 : decode cX10_placesSeen 28 = .ok (.goto 4, 3) := by decide +kernel
theorem dX10_placesSeen_31 : decode cX10_placesSeen 31 = .ok (.iconst 1, 1) := by decide +kernel
theorem dX10_placesSeen_32 : decode cX10_placesSeen 32 = .ok (.iadd, 1) := by decide +kernel
theorem dX10_placesSeen_33 : decode cX10_placesSeen 33 = .ok (.istore_n 3, 1) := by decide +kernel
theorem dX10_placesSeen_34 : decode cX10_placesSeen 34 = .ok (.iinc 4 1, 3) := by decide +kernel
theorem dX10_placesSeen_37 : decode cX10_placesSeen 37 = .ok (.goto (-32), 3) := by decide +kernel
theorem dX10_placesSeen_40 : decode cX10_placesSeen 40 = .ok (.iload_n 3, 1) := by decide +kernel
theorem dX10_placesSeen_41 : decode cX10_placesSeen 41 = .ok (.ireturn, 1) := by decide +kernel
theorem dX10_isReadAt_0 : decode cX10_isReadAt 0 = .ok (.iconst 1, 1) := by decide +kernel
theorem dX10_isReadAt_1 : decode cX10_isReadAt 1 = .ok (.istore 5, 2) := by decide +kernel
theorem dX10_isReadAt_3 : decode cX10_isReadAt 3 = .ok (.iconst 0, 1) := by decide +kernel
theorem dX10_isReadAt_4 : decode cX10_isReadAt 4 = .ok (.istore 6, 2) := by decide +kernel
theorem dX10_isReadAt_6 : decode cX10_isReadAt 6 = .ok (.iload 6, 2) := by decide +kernel
theorem dX10_isReadAt_8 : decode cX10_isReadAt 8 = .ok (.aload_n 0, 1) := by decide +kernel
theorem dX10_isReadAt_9 : decode cX10_isReadAt 9 = .ok (.getfield 94, 3) := by decide +kernel
theorem dX10_isReadAt_12 : decode cX10_isReadAt 12 = .ok (.if_icmp .ge 55, 3) := by decide +kernel
theorem dX10_isReadAt_15 : decode cX10_isReadAt 15 = .ok (.iload 5, 2) := by decide +kernel
theorem dX10_isReadAt_17 : decode cX10_isReadAt 17 = .ok (.ifCond .eq 50, 3) := by decide +kernel
theorem dX10_isReadAt_20 : decode cX10_isReadAt 20 = .ok (.aload_n 0, 1) := by decide +kernel
theorem dX10_isReadAt_21 : decode cX10_isReadAt 21 = .ok (.iload_n 1, 1) := by decide +kernel
theorem dX10_isReadAt_22 : decode cX10_isReadAt 22 = .ok (.iload_n 2, 1) := by decide +kernel
theorem dX10_isReadAt_23 : decode cX10_isReadAt 23 = .ok (.iload_n 3, 1) := by decide +kernel
theorem dX10_isReadAt_24 : decode cX10_isReadAt 24 = .ok (.ifCond .ne 11, 3) := by decide +kernel
theorem dX10_isReadAt_27 : decode cX10_isReadAt 27 = .ok (.iload 4, 2) := by decide +kernel
theorem dX10_isReadAt_29 : decode cX10_isReadAt 29 = .ok (.iload 6, 2) := by decide +kernel
theorem dX10_isReadAt_31 : decode cX10_isReadAt 31 = .ok (.iadd, 1) := by decide +kernel
theorem dX10_isReadAt_32 : decode cX10_isReadAt 32 = .ok (.goto 8, 3) := by decide +kernel
theorem dX10_isReadAt_35 : decode cX10_isReadAt 35 = .ok (.iload 4, 2) := by decide +kernel
theorem dX10_isReadAt_37 : decode cX10_isReadAt 37 = .ok (.iload 6, 2) := by decide +kernel
theorem dX10_isReadAt_39 : decode cX10_isReadAt 39 = .ok (.isub, 1) := by decide +kernel
theorem dX10_isReadAt_40 : decode cX10_isReadAt 40 = .ok (.iload_n 3, 1) := by decide +kernel
theorem dX10_isReadAt_41 : decode cX10_isReadAt 41 = .ok (.invokevirtual 119, 3) := by decide +kernel
theorem dX10_isReadAt_44 : decode cX10_isReadAt 44 = .ok (.aload_n 0, 1) := by decide +kernel
theorem dX10_isReadAt_45 : decode cX10_isReadAt 45 = .ok (.getfield 28, 3) := by decide +kernel
theorem dX10_isReadAt_48 : decode cX10_isReadAt 48 = .ok (.iload 6, 2) := by decide +kernel
theorem dX10_isReadAt_50 : decode cX10_isReadAt 50 = .ok (.iaload, 1) := by decide +kernel
theorem dX10_isReadAt_51 : decode cX10_isReadAt 51 = .ok (.if_icmp .ne 7, 3) := by decide +kernel
theorem dX10_isReadAt_54 : decode cX10_isReadAt 54 = .ok (.iconst 1, 1) := by decide +kernel
theorem dX10_isReadAt_55 : decode cX10_isReadAt 55 = .ok (.goto 4, 3) := by decide +kernel
theorem dX10_isReadAt_58 : decode cX10_isReadAt 58 = .ok (.iconst 0, 1) := by decide +kernel
theorem dX10_isReadAt_59 : decode cX10_isReadAt 59 = .ok (.istore 5, 2) := by decide +kernel
theorem dX10_isReadAt_61 : decode cX10_isReadAt 61 = .ok (.iinc 6 1, 3) := by decide +kernel
theorem dX10_isReadAt_64 : decode cX10_isReadAt 64 = .ok (.goto (-58), 3) := by decide +kernel
theorem dX10_isReadAt_67 : decode cX10_isReadAt 67 = .ok (.iload 5, 2) := by decide +kernel
theorem dX10_isReadAt_69 : decode cX10_isReadAt 69 = .ok (.ireturn, 1) := by decide +kernel
theorem dX10_readsOn_0 : decode cX10_readsOn 0 = .ok (.aload_n 0, 1) := by decide +kernel
theorem dX10_readsOn_1 : decode cX10_readsOn 1 = .ok (.getfield 94, 3) := by decide +kernel
theorem dX10_readsOn_4 : decode cX10_readsOn 4 = .ok (.ifCond .ne 5, 3) := by decide +kernel
theorem dX10_readsOn_7 : decode cX10_readsOn 7 = .ok (.iconst 0, 1) := by decide +kernel
theorem dX10_readsOn_8 : decode cX10_readsOn 8 = .ok (.ireturn, 1) := by decide +kernel
theorem dX10_readsOn_9 : decode cX10_readsOn 9 = .ok (.iconst 0, 1) := by decide +kernel
theorem dX10_readsOn_10 : decode cX10_readsOn 10 = .ok (.istore 4, 2) := by decide +kernel
theorem dX10_readsOn_12 : decode cX10_readsOn 12 = .ok (.iload 4, 2) := by decide +kernel
theorem dX10_readsOn_14 : decode cX10_readsOn 14 = .ok (.bipush 28, 2) := by decide +kernel
theorem dX10_readsOn_16 : decode cX10_readsOn 16 = .ok (.if_icmp .ge 40, 3) := by decide +kernel
theorem dX10_readsOn_19 : decode cX10_readsOn 19 = .ok (.iload_n 3, 1) := by decide +kernel
theorem dX10_readsOn_20 : decode cX10_readsOn 20 = .ok (.ifCond .ne 8, 3) := by decide +kernel
theorem dX10_readsOn_23 : decode cX10_readsOn 23 = .ok (.iload 4, 2) := by decide +kernel
theorem dX10_readsOn_25 : decode cX10_readsOn 25 = .ok (.goto 8, 3) := by decide +kernel
theorem dX10_readsOn_28 : decode cX10_readsOn 28 = .ok (.bipush 27, 2) := by decide +kernel
theorem dX10_readsOn_30 : decode cX10_readsOn 30 = .ok (.iload 4, 2) := by decide +kernel
theorem dX10_readsOn_32 : decode cX10_readsOn 32 = .ok (.isub, 1) := by decide +kernel
theorem dX10_readsOn_33 : decode cX10_readsOn 33 = .ok (.istore 5, 2) := by decide +kernel
theorem dX10_readsOn_35 : decode cX10_readsOn 35 = .ok (.aload_n 0, 1) := by decide +kernel
theorem dX10_readsOn_36 : decode cX10_readsOn 36 = .ok (.iload_n 1, 1) := by decide +kernel
theorem dX10_readsOn_37 : decode cX10_readsOn 37 = .ok (.iload_n 2, 1) := by decide +kernel
theorem dX10_readsOn_38 : decode cX10_readsOn 38 = .ok (.iload_n 3, 1) := by decide +kernel
theorem dX10_readsOn_39 : decode cX10_readsOn 39 = .ok (.iload 5, 2) := by decide +kernel
theorem dX10_readsOn_41 : decode cX10_readsOn 41 = .ok (.invokevirtual 122, 3) := by decide +kernel
theorem dX10_readsOn_44 : decode cX10_readsOn 44 = .ok (.ifCond .eq 6, 3) := by decide +kernel
theorem dX10_readsOn_47 : decode cX10_readsOn 47 = .ok (.iload 5, 2) := by decide +kernel
theorem dX10_readsOn_49 : decode cX10_readsOn 49 = .ok (.ireturn, 1) := by decide +kernel
theorem dX10_readsOn_50 : decode cX10_readsOn 50 = .ok (.iinc 4 1, 3) := by decide +kernel
theorem dX10_readsOn_53 : decode cX10_readsOn 53 = .ok (.goto (-41), 3) := by decide +kernel
theorem dX10_readsOn_56 : decode cX10_readsOn 56 = .ok (.bipush (-9), 2) := by decide +kernel
theorem dX10_readsOn_58 : decode cX10_readsOn 58 = .ok (.ireturn, 1) := by decide +kernel
theorem dX10_blade_0 : decode cX10_blade 0 = .ok (.aload_n 0, 1) := by decide +kernel
theorem dX10_blade_1 : decode cX10_blade 1 = .ok (.iload_n 1, 1) := by decide +kernel
theorem dX10_blade_2 : decode cX10_blade 2 = .ok (.invokevirtual 126, 3) := by decide +kernel
theorem dX10_blade_5 : decode cX10_blade 5 = .ok (.ifCond .ne 5, 3) := by decide +kernel
theorem dX10_blade_8 : decode cX10_blade 8 = .ok (.iconst (-1), 1) := by decide +kernel
theorem dX10_blade_9 : decode cX10_blade 9 = .ok (.ireturn, 1) := by decide +kernel
theorem dX10_blade_10 : decode cX10_blade 10 = .ok (.iload_n 2, 1) := by decide +kernel
theorem dX10_blade_11 : decode cX10_blade 11 = .ok (.tableswitch 93 0 5 #[37, 44, 51, 57, 65, 73], 37) := by decide +kernel
theorem dX10_blade_48 : decode cX10_blade 48 = .ok (.aload_n 0, 1) := by decide +kernel
theorem dX10_blade_49 : decode cX10_blade 49 = .ok (.getfield 7, 3) := by decide +kernel
theorem dX10_blade_52 : decode cX10_blade 52 = .ok (.iload_n 1, 1) := by decide +kernel
theorem dX10_blade_53 : decode cX10_blade 53 = .ok (.iaload, 1) := by decide +kernel
theorem dX10_blade_54 : decode cX10_blade 54 = .ok (.ireturn, 1) := by decide +kernel
theorem dX10_blade_55 : decode cX10_blade 55 = .ok (.aload_n 0, 1) := by decide +kernel
theorem dX10_blade_56 : decode cX10_blade 56 = .ok (.iconst 0, 1) := by decide +kernel
theorem dX10_blade_57 : decode cX10_blade 57 = .ok (.iload_n 1, 1) := by decide +kernel
theorem dX10_blade_58 : decode cX10_blade 58 = .ok (.invokevirtual 97, 3) := by decide +kernel
theorem dX10_blade_61 : decode cX10_blade 61 = .ok (.ireturn, 1) := by decide +kernel
theorem dX10_blade_62 : decode cX10_blade 62 = .ok (.aload_n 0, 1) := by decide +kernel
theorem dX10_blade_63 : decode cX10_blade 63 = .ok (.iload_n 1, 1) := by decide +kernel
theorem dX10_blade_64 : decode cX10_blade 64 = .ok (.invokevirtual 101, 3) := by decide +kernel
theorem dX10_blade_67 : decode cX10_blade 67 = .ok (.ireturn, 1) := by decide +kernel
theorem dX10_blade_68 : decode cX10_blade 68 = .ok (.aload_n 0, 1) := by decide +kernel
theorem dX10_blade_69 : decode cX10_blade 69 = .ok (.iconst 0, 1) := by decide +kernel
theorem dX10_blade_70 : decode cX10_blade 70 = .ok (.iload_n 1, 1) := by decide +kernel
theorem dX10_blade_71 : decode cX10_blade 71 = .ok (.iconst 0, 1) := by decide +kernel
theorem dX10_blade_72 : decode cX10_blade 72 = .ok (.invokevirtual 130, 3) := by decide +kernel
theorem dX10_blade_75 : decode cX10_blade 75 = .ok (.ireturn, 1) := by decide +kernel
theorem dX10_blade_76 : decode cX10_blade 76 = .ok (.aload_n 0, 1) := by decide +kernel
theorem dX10_blade_77 : decode cX10_blade 77 = .ok (.iconst 0, 1) := by decide +kernel
theorem dX10_blade_78 : decode cX10_blade 78 = .ok (.iload_n 1, 1) := by decide +kernel
theorem dX10_blade_79 : decode cX10_blade 79 = .ok (.iconst 1, 1) := by decide +kernel
theorem dX10_blade_80 : decode cX10_blade 80 = .ok (.invokevirtual 130, 3) := by decide +kernel
theorem dX10_blade_83 : decode cX10_blade 83 = .ok (.ireturn, 1) := by decide +kernel
theorem dX10_blade_84 : decode cX10_blade 84 = .ok (.aload_n 0, 1) := by decide +kernel
theorem dX10_blade_85 : decode cX10_blade 85 = .ok (.iload_n 1, 1) := by decide +kernel
theorem dX10_blade_86 : decode cX10_blade 86 = .ok (.invokevirtual 133, 3) := by decide +kernel
theorem dX10_blade_89 : decode cX10_blade 89 = .ok (.ifCond .eq 12, 3) := by decide +kernel
theorem dX10_blade_92 : decode cX10_blade 92 = .ok (.aload_n 0, 1) := by decide +kernel
theorem dX10_blade_93 : decode cX10_blade 93 = .ok (.getfield 16, 3) := by decide +kernel
theorem dX10_blade_96 : decode cX10_blade 96 = .ok (.iload_n 1, 1) := by decide +kernel
theorem dX10_blade_97 : decode cX10_blade 97 = .ok (.iaload, 1) := by decide +kernel
theorem dX10_blade_98 : decode cX10_blade 98 = .ok (.goto 5, 3) := by decide +kernel
theorem dX10_blade_101 : decode cX10_blade 101 = .ok (.bipush (-9), 2) := by decide +kernel
theorem dX10_blade_103 : decode cX10_blade 103 = .ok (.ireturn, 1) := by decide +kernel
theorem dX10_blade_104 : decode cX10_blade 104 = .ok (.bipush (-2), 2) := by decide +kernel
theorem dX10_blade_106 : decode cX10_blade 106 = .ok (.ireturn, 1) := by decide +kernel
theorem dX10_look_0 : decode cX10_look 0 = .ok (.iload_n 1, 1) := by decide +kernel
theorem dX10_look_1 : decode cX10_look 1 = .ok (.i2l, 1) := by decide +kernel
theorem dX10_look_2 : decode cX10_look 2 = .ok (.lconst 0, 1) := by decide +kernel
theorem dX10_look_3 : decode cX10_look 3 = .ok (.ldc2_w 113, 3) := by decide +kernel
theorem dX10_look_6 : decode cX10_look 6 = .ok (.invokestatic 52, 3) := by decide +kernel
theorem dX10_look_9 : decode cX10_look 9 = .ok (.ifCond .ne 5, 3) := by decide +kernel
theorem dX10_look_12 : decode cX10_look 12 = .ok (.iconst (-1), 1) := by decide +kernel
theorem dX10_look_13 : decode cX10_look 13 = .ok (.ireturn, 1) := by decide +kernel
theorem dX10_look_14 : decode cX10_look 14 = .ok (.iload_n 2, 1) := by decide +kernel
theorem dX10_look_15 : decode cX10_look 15 = .ok (.i2l, 1) := by decide +kernel
theorem dX10_look_16 : decode cX10_look 16 = .ok (.lconst 0, 1) := by decide +kernel
theorem dX10_look_17 : decode cX10_look 17 = .ok (.lconst 1, 1) := by decide +kernel
theorem dX10_look_18 : decode cX10_look 18 = .ok (.invokestatic 52, 3) := by decide +kernel
theorem dX10_look_21 : decode cX10_look 21 = .ok (.ifCond .eq 13, 3) := by decide +kernel
theorem dX10_look_24 : decode cX10_look 24 = .ok (.iload_n 3, 1) := by decide +kernel
theorem dX10_look_25 : decode cX10_look 25 = .ok (.i2l, 1) := by decide +kernel
theorem dX10_look_26 : decode cX10_look 26 = .ok (.lconst 0, 1) := by decide +kernel
theorem dX10_look_27 : decode cX10_look 27 = .ok (.lconst 1, 1) := by decide +kernel
theorem dX10_look_28 : decode cX10_look 28 = .ok (.invokestatic 52, 3) := by decide +kernel
theorem dX10_look_31 : decode cX10_look 31 = .ok (.ifCond .ne 6, 3) := by decide +kernel
theorem dX10_look_34 : decode cX10_look 34 = .ok (.bipush (-2), 2) := by decide +kernel
theorem dX10_look_36 : decode cX10_look 36 = .ok (.ireturn, 1) := by decide +kernel
theorem dX10_look_37 : decode cX10_look 37 = .ok (.aload_n 0, 1) := by decide +kernel
theorem dX10_look_38 : decode cX10_look 38 = .ok (.iconst 0, 1) := by decide +kernel
theorem dX10_look_39 : decode cX10_look 39 = .ok (.bipush 63, 2) := by decide +kernel
theorem dX10_look_41 : decode cX10_look 41 = .ok (.iload_n 1, 1) := by decide +kernel
theorem dX10_look_42 : decode cX10_look 42 = .ok (.iload_n 2, 1) := by decide +kernel
theorem dX10_look_43 : decode cX10_look 43 = .ok (.invokevirtual 119, 3) := by decide +kernel
theorem dX10_look_46 : decode cX10_look 46 = .ok (.istore 4, 2) := by decide +kernel
theorem dX10_look_48 : decode cX10_look 48 = .ok (.iload_n 3, 1) := by decide +kernel
theorem dX10_look_49 : decode cX10_look 49 = .ok (.iconst 1, 1) := by decide +kernel
theorem dX10_look_50 : decode cX10_look 50 = .ok (.if_icmp .ne 15, 3) := by decide +kernel
theorem dX10_look_53 : decode cX10_look 53 = .ok (.aload_n 0, 1) := by decide +kernel
theorem dX10_look_54 : decode cX10_look 54 = .ok (.iconst 0, 1) := by decide +kernel
theorem dX10_look_55 : decode cX10_look 55 = .ok (.bipush 63, 2) := by decide +kernel
theorem dX10_look_57 : decode cX10_look 57 = .ok (.iload_n 1, 1) := by decide +kernel
theorem dX10_look_58 : decode cX10_look 58 = .ok (.iload_n 2, 1) := by decide +kernel
theorem dX10_look_59 : decode cX10_look 59 = .ok (.invokevirtual 115, 3) := by decide +kernel
theorem dX10_look_62 : decode cX10_look 62 = .ok (.goto 20, 3) := by decide +kernel
theorem dX10_look_65 : decode cX10_look 65 = .ok (.iload 4, 2) := by decide +kernel
theorem dX10_look_67 : decode cX10_look 67 = .ok (.bipush (-9), 2) := by decide +kernel
theorem dX10_look_69 : decode cX10_look 69 = .ok (.if_icmp .ne 8, 3) := by decide +kernel
theorem dX10_look_72 : decode cX10_look 72 = .ok (.bipush (-9), 2) := by decide +kernel
theorem dX10_look_74 : decode cX10_look 74 = .ok (.goto 8, 3) := by decide +kernel
theorem dX10_look_77 : decode cX10_look 77 = .ok (.iload 4, 2) := by decide +kernel
theorem dX10_look_79 : decode cX10_look 79 = .ok (.bipush 97, 2) := by decide +kernel
theorem dX10_look_81 : decode cX10_look 81 = .ok (.iadd, 1) := by decide +kernel
theorem dX10_look_82 : decode cX10_look 82 = .ok (.ireturn, 1) := by decide +kernel
theorem dX10_keepAct_0 : decode cX10_keepAct 0 = .ok (.iconst 0, 1) := by decide +kernel
theorem dX10_keepAct_1 : decode cX10_keepAct 1 = .ok (.istore_n 1, 1) := by decide +kernel
theorem dX10_keepAct_2 : decode cX10_keepAct 2 = .ok (.iload_n 1, 1) := by decide +kernel
theorem dX10_keepAct_3 : decode cX10_keepAct 3 = .ok (.iconst 5, 1) := by decide +kernel
theorem dX10_keepAct_4 : decode cX10_keepAct 4 = .ok (.if_icmp .ge 28, 3) := by decide +kernel
theorem dX10_keepAct_7 : decode cX10_keepAct 7 = .ok (.aload_n 0, 1) := by decide +kernel
theorem dX10_keepAct_8 : decode cX10_keepAct 8 = .ok (.getfield 31, 3) := by decide +kernel
theorem dX10_keepAct_11 : decode cX10_keepAct 11 = .ok (.iconst 5, 1) := by decide +kernel
theorem dX10_keepAct_12 : decode cX10_keepAct 12 = .ok (.aload_n 0, 1) := by decide +kernel
theorem dX10_keepAct_13 : decode cX10_keepAct 13 = .ok (.getfield 136, 3) := by decide +kernel
theorem dX10_keepAct_16 : decode cX10_keepAct 16 = .ok (.imul, 1) := by decide +kernel
theorem dX10_keepAct_17 : decode cX10_keepAct 17 = .ok (.iload_n 1, 1) := by decide +kernel
theorem dX10_keepAct_18 : decode cX10_keepAct 18 = .ok (.iadd, 1) := by decide +kernel
theorem dX10_keepAct_19 : decode cX10_keepAct 19 = .ok (.aload_n 0, 1) := by decide +kernel
theorem dX10_keepAct_20 : decode cX10_keepAct 20 = .ok (.getfield 16, 3) := by decide +kernel
theorem dX10_keepAct_23 : decode cX10_keepAct 23 = .ok (.iload_n 1, 1) := by decide +kernel
theorem dX10_keepAct_24 : decode cX10_keepAct 24 = .ok (.iaload, 1) := by decide +kernel
theorem dX10_keepAct_25 : decode cX10_keepAct 25 = .ok (.iastore, 1) := by decide +kernel
theorem dX10_keepAct_26 : decode cX10_keepAct 26 = .ok (.iinc 1 1, 3) := by decide +kernel
theorem dX10_keepAct_29 : decode cX10_keepAct 29 = .ok (.goto (-27), 3) := by decide +kernel
theorem dX10_keepAct_32 : decode cX10_keepAct 32 = .ok (.aload_n 0, 1) := by decide +kernel
theorem dX10_keepAct_33 : decode cX10_keepAct 33 = .ok (.aload_n 0, 1) := by decide +kernel
theorem dX10_keepAct_34 : decode cX10_keepAct 34 = .ok (.getfield 136, 3) := by decide +kernel
theorem dX10_keepAct_37 : decode cX10_keepAct 37 = .ok (.iconst 1, 1) := by decide +kernel
theorem dX10_keepAct_38 : decode cX10_keepAct 38 = .ok (.iadd, 1) := by decide +kernel
theorem dX10_keepAct_39 : decode cX10_keepAct 39 = .ok (.bipush 14, 2) := by decide +kernel
theorem dX10_keepAct_41 : decode cX10_keepAct 41 = .ok (.irem, 1) := by decide +kernel
theorem dX10_keepAct_42 : decode cX10_keepAct 42 = .ok (.putfield 136, 3) := by decide +kernel
theorem dX10_keepAct_45 : decode cX10_keepAct 45 = .ok (.aload_n 0, 1) := by decide +kernel
theorem dX10_keepAct_46 : decode cX10_keepAct 46 = .ok (.aload_n 0, 1) := by decide +kernel
theorem dX10_keepAct_47 : decode cX10_keepAct 47 = .ok (.getfield 78, 3) := by decide +kernel
theorem dX10_keepAct_50 : decode cX10_keepAct 50 = .ok (.bipush 14, 2) := by decide +kernel
theorem dX10_keepAct_52 : decode cX10_keepAct 52 = .ok (.if_icmp .ge 12, 3) := by decide +kernel
theorem dX10_keepAct_55 : decode cX10_keepAct 55 = .ok (.aload_n 0, 1) := by decide +kernel
theorem dX10_keepAct_56 : decode cX10_keepAct 56 = .ok (.getfield 78, 3) := by decide +kernel
theorem dX10_keepAct_59 : decode cX10_keepAct 59 = .ok (.iconst 1, 1) := by decide +kernel
theorem dX10_keepAct_60 : decode cX10_keepAct 60 = .ok (.iadd, 1) := by decide +kernel
theorem dX10_keepAct_61 : decode cX10_keepAct 61 = .ok (.goto 5, 3) := by decide +kernel
theorem dX10_keepAct_64 : decode cX10_keepAct 64 = .ok (.bipush 14, 2) := by decide +kernel
theorem dX10_keepAct_66 : decode cX10_keepAct 66 = .ok (.putfield 78, 3) := by decide +kernel
theorem dX10_keepAct_69 : decode cX10_keepAct 69 = .ok (.return_, 1) := by decide +kernel
theorem dX10_canSpread_0 : decode cX10_canSpread 0 = .ok (.aload_n 0, 1) := by decide +kernel
theorem dX10_canSpread_1 : decode cX10_canSpread 1 = .ok (.iload_n 2, 1) := by decide +kernel
theorem dX10_canSpread_2 : decode cX10_canSpread 2 = .ok (.invokevirtual 133, 3) := by decide +kernel
theorem dX10_canSpread_5 : decode cX10_canSpread 5 = .ok (.ifCond .eq 29, 3) := by decide +kernel
theorem dX10_canSpread_8 : decode cX10_canSpread 8 = .ok (.aload_n 0, 1) := by decide +kernel
theorem dX10_canSpread_9 : decode cX10_canSpread 9 = .ok (.iload_n 2, 1) := by decide +kernel
theorem dX10_canSpread_10 : decode cX10_canSpread 10 = .ok (.invokevirtual 139, 3) := by decide +kernel
theorem dX10_canSpread_13 : decode cX10_canSpread 13 = .ok (.ifCond .eq 21, 3) := by decide +kernel
theorem dX10_canSpread_16 : decode cX10_canSpread 16 = .ok (.aload_n 0, 1) := by decide +kernel
theorem dX10_canSpread_17 : decode cX10_canSpread 17 = .ok (.getfield 16, 3) := by decide +kernel
theorem dX10_canSpread_20 : decode cX10_canSpread 20 = .ok (.iconst 5, 1) := by decide +kernel
theorem dX10_canSpread_21 : decode cX10_canSpread 21 = .ok (.iload_n 1, 1) := by decide +kernel
theorem dX10_canSpread_22 : decode cX10_canSpread 22 = .ok (.imul, 1) := by decide +kernel
theorem dX10_canSpread_23 : decode cX10_canSpread 23 = .ok (.iload_n 2, 1) := by decide +kernel
theorem dX10_canSpread_24 : decode cX10_canSpread 24 = .ok (.iadd, 1) := by decide +kernel
theorem dX10_canSpread_25 : decode cX10_canSpread 25 = .ok (.iaload, 1) := by decide +kernel
theorem dX10_canSpread_26 : decode cX10_canSpread 26 = .ok (.iconst 4, 1) := by decide +kernel
theorem dX10_canSpread_27 : decode cX10_canSpread 27 = .ok (.if_icmp .ge 7, 3) := by decide +kernel
theorem dX10_canSpread_30 : decode cX10_canSpread 30 = .ok (.iconst 1, 1) := by decide +kernel
theorem dX10_canSpread_31 : decode cX10_canSpread 31 = .ok (.goto 4, 3) := by decide +kernel
theorem dX10_canSpread_34 : decode cX10_canSpread 34 = .ok (.iconst 0, 1) := by decide +kernel
theorem dX10_canSpread_35 : decode cX10_canSpread 35 = .ok (.ireturn, 1) := by decide +kernel
theorem dX10_canFold_0 : decode cX10_canFold 0 = .ok (.aload_n 0, 1) := by decide +kernel
theorem dX10_canFold_1 : decode cX10_canFold 1 = .ok (.iload_n 2, 1) := by decide +kernel
theorem dX10_canFold_2 : decode cX10_canFold 2 = .ok (.invokevirtual 133, 3) := by decide +kernel
theorem dX10_canFold_5 : decode cX10_canFold 5 = .ok (.ifCond .eq 28, 3) := by decide +kernel
theorem dX10_canFold_8 : decode cX10_canFold 8 = .ok (.aload_n 0, 1) := by decide +kernel
theorem dX10_canFold_9 : decode cX10_canFold 9 = .ok (.iload_n 2, 1) := by decide +kernel
theorem dX10_canFold_10 : decode cX10_canFold 10 = .ok (.invokevirtual 139, 3) := by decide +kernel
theorem dX10_canFold_13 : decode cX10_canFold 13 = .ok (.ifCond .eq 20, 3) := by decide +kernel
theorem dX10_canFold_16 : decode cX10_canFold 16 = .ok (.aload_n 0, 1) := by decide +kernel
theorem dX10_canFold_17 : decode cX10_canFold 17 = .ok (.getfield 16, 3) := by decide +kernel
theorem dX10_canFold_20 : decode cX10_canFold 20 = .ok (.iconst 5, 1) := by decide +kernel
theorem dX10_canFold_21 : decode cX10_canFold 21 = .ok (.iload_n 1, 1) := by decide +kernel
theorem dX10_canFold_22 : decode cX10_canFold 22 = .ok (.imul, 1) := by decide +kernel
theorem dX10_canFold_23 : decode cX10_canFold 23 = .ok (.iload_n 2, 1) := by decide +kernel
theorem dX10_canFold_24 : decode cX10_canFold 24 = .ok (.iadd, 1) := by decide +kernel
theorem dX10_canFold_25 : decode cX10_canFold 25 = .ok (.iaload, 1) := by decide +kernel
theorem dX10_canFold_26 : decode cX10_canFold 26 = .ok (.ifCond .le 7, 3) := by decide +kernel
theorem dX10_canFold_29 : decode cX10_canFold 29 = .ok (.iconst 1, 1) := by decide +kernel
theorem dX10_canFold_30 : decode cX10_canFold 30 = .ok (.goto 4, 3) := by decide +kernel
theorem dX10_canFold_33 : decode cX10_canFold 33 = .ok (.iconst 0, 1) := by decide +kernel
theorem dX10_canFold_34 : decode cX10_canFold 34 = .ok (.ireturn, 1) := by decide +kernel
theorem dX10_spread_0 : decode cX10_spread 0 = .ok (.aload_n 0, 1) := by decide +kernel
theorem dX10_spread_1 : decode cX10_spread 1 = .ok (.iload_n 1, 1) := by decide +kernel
theorem dX10_spread_2 : decode cX10_spread 2 = .ok (.invokevirtual 133, 3) := by decide +kernel
theorem dX10_spread_5 : decode cX10_spread 5 = .ok (.ifCond .ne 5, 3) := by decide +kernel
theorem dX10_spread_8 : decode cX10_spread 8 = .ok (.iconst (-1), 1) := by decide +kernel
theorem dX10_spread_9 : decode cX10_spread 9 = .ok (.ireturn, 1) := by decide +kernel
theorem dX10_spread_10 : decode cX10_spread 10 = .ok (.aload_n 0, 1) := by decide +kernel
theorem dX10_spread_11 : decode cX10_spread 11 = .ok (.iconst 0, 1) := by decide +kernel
theorem dX10_spread_12 : decode cX10_spread 12 = .ok (.iload_n 1, 1) := by decide +kernel
theorem dX10_spread_13 : decode cX10_spread 13 = .ok (.invokevirtual 142, 3) := by decide +kernel
theorem dX10_spread_16 : decode cX10_spread 16 = .ok (.ifCond .ne 6, 3) := by decide +kernel
theorem dX10_spread_19 : decode cX10_spread 19 = .ok (.bipush (-3), 2) := by decide +kernel
theorem dX10_spread_21 : decode cX10_spread 21 = .ok (.ireturn, 1) := by decide +kernel
theorem dX10_spread_22 : decode cX10_spread 22 = .ok (.aload_n 0, 1) := by decide +kernel
theorem dX10_spread_23 : decode cX10_spread 23 = .ok (.invokevirtual 145, 3) := by decide +kernel
theorem dX10_spread_26 : decode cX10_spread 26 = .ok (.aload_n 0, 1) := by decide +kernel
theorem dX10_spread_27 : decode cX10_spread 27 = .ok (.getfield 16, 3) := by decide +kernel
theorem dX10_spread_30 : decode cX10_spread 30 = .ok (.iload_n 1, 1) := by decide +kernel
theorem dX10_spread_31 : decode cX10_spread 31 = .ok (.dup2, 1) := by decide +kernel
theorem dX10_spread_32 : decode cX10_spread 32 = .ok (.iaload, 1) := by decide +kernel
theorem dX10_spread_33 : decode cX10_spread 33 = .ok (.iconst 1, 1) := by decide +kernel
theorem dX10_spread_34 : decode cX10_spread 34 = .ok (.iadd, 1) := by decide +kernel
theorem dX10_spread_35 : decode cX10_spread 35 = .ok (.iastore, 1) := by decide +kernel
theorem dX10_spread_36 : decode cX10_spread 36 = .ok (.aload_n 0, 1) := by decide +kernel
theorem dX10_spread_37 : decode cX10_spread 37 = .ok (.getfield 16, 3) := by decide +kernel
theorem dX10_spread_40 : decode cX10_spread 40 = .ok (.iload_n 1, 1) := by decide +kernel
theorem dX10_spread_41 : decode cX10_spread 41 = .ok (.iaload, 1) := by decide +kernel
theorem dX10_spread_42 : decode cX10_spread 42 = .ok (.ireturn, 1) := by decide +kernel
theorem dX10_fold_0 : decode cX10_fold 0 = .ok (.aload_n 0, 1) := by decide +kernel
theorem dX10_fold_1 : decode cX10_fold 1 = .ok (.iload_n 1, 1) := by decide +kernel
theorem dX10_fold_2 : decode cX10_fold 2 = .ok (.invokevirtual 133, 3) := by decide +kernel
theorem dX10_fold_5 : decode cX10_fold 5 = .ok (.ifCond .ne 5, 3) := by decide +kernel
theorem dX10_fold_8 : decode cX10_fold 8 = .ok (.iconst (-1), 1) := by decide +kernel
theorem dX10_fold_9 : decode cX10_fold 9 = .ok (.ireturn, 1) := by decide +kernel
theorem dX10_fold_10 : decode cX10_fold 10 = .ok (.aload_n 0, 1) := by decide +kernel
theorem dX10_fold_11 : decode cX10_fold 11 = .ok (.iconst 0, 1) := by decide +kernel
theorem dX10_fold_12 : decode cX10_fold 12 = .ok (.iload_n 1, 1) := by decide +kernel
theorem dX10_fold_13 : decode cX10_fold 13 = .ok (.invokevirtual 148, 3) := by decide +kernel
theorem dX10_fold_16 : decode cX10_fold 16 = .ok (.ifCond .ne 6, 3) := by decide +kernel
theorem dX10_fold_19 : decode cX10_fold 19 = .ok (.bipush (-3), 2) := by decide +kernel
theorem dX10_fold_21 : decode cX10_fold 21 = .ok (.ireturn, 1) := by decide +kernel
theorem dX10_fold_22 : decode cX10_fold 22 = .ok (.aload_n 0, 1) := by decide +kernel
theorem dX10_fold_23 : decode cX10_fold 23 = .ok (.invokevirtual 145, 3) := by decide +kernel
theorem dX10_fold_26 : decode cX10_fold 26 = .ok (.aload_n 0, 1) := by decide +kernel
theorem dX10_fold_27 : decode cX10_fold 27 = .ok (.getfield 16, 3) := by decide +kernel
theorem dX10_fold_30 : decode cX10_fold 30 = .ok (.iload_n 1, 1) := by decide +kernel
theorem dX10_fold_31 : decode cX10_fold 31 = .ok (.dup2, 1) := by decide +kernel
theorem dX10_fold_32 : decode cX10_fold 32 = .ok (.iaload, 1) := by decide +kernel
theorem dX10_fold_33 : decode cX10_fold 33 = .ok (.iconst 1, 1) := by decide +kernel
theorem dX10_fold_34 : decode cX10_fold 34 = .ok (.isub, 1) := by decide +kernel
theorem dX10_fold_35 : decode cX10_fold 35 = .ok (.iastore, 1) := by decide +kernel
theorem dX10_fold_36 : decode cX10_fold 36 = .ok (.aload_n 0, 1) := by decide +kernel
theorem dX10_fold_37 : decode cX10_fold 37 = .ok (.getfield 16, 3) := by decide +kernel
theorem dX10_fold_40 : decode cX10_fold 40 = .ok (.iload_n 1, 1) := by decide +kernel
theorem dX10_fold_41 : decode cX10_fold 41 = .ok (.iaload, 1) := by decide +kernel
theorem dX10_fold_42 : decode cX10_fold 42 = .ok (.ireturn, 1) := by decide +kernel
theorem dX10_flingOn_0 : decode cX10_flingOn 0 = .ok (.iconst 0, 1) := by decide +kernel
theorem dX10_flingOn_1 : decode cX10_flingOn 1 = .ok (.istore_n 2, 1) := by decide +kernel
theorem dX10_flingOn_2 : decode cX10_flingOn 2 = .ok (.iconst 0, 1) := by decide +kernel
theorem dX10_flingOn_3 : decode cX10_flingOn 3 = .ok (.istore_n 3, 1) := by decide +kernel
theorem dX10_flingOn_4 : decode cX10_flingOn 4 = .ok (.iload_n 3, 1) := by decide +kernel
theorem dX10_flingOn_5 : decode cX10_flingOn 5 = .ok (.aload_n 0, 1) := by decide +kernel
theorem dX10_flingOn_6 : decode cX10_flingOn 6 = .ok (.invokevirtual 81, 3) := by decide +kernel
theorem dX10_flingOn_9 : decode cX10_flingOn 9 = .ok (.if_icmp .ge 53, 3) := by decide +kernel
theorem dX10_flingOn_12 : decode cX10_flingOn 12 = .ok (.aload_n 0, 1) := by decide +kernel
theorem dX10_flingOn_13 : decode cX10_flingOn 13 = .ok (.iload_n 1, 1) := by decide +kernel
theorem dX10_flingOn_14 : decode cX10_flingOn 14 = .ok (.iload_n 3, 1) := by decide +kernel
theorem dX10_flingOn_15 : decode cX10_flingOn 15 = .ok (.invokevirtual 142, 3) := by decide +kernel
theorem dX10_flingOn_18 : decode cX10_flingOn 18 = .ok (.istore 4, 2) := by decide +kernel
theorem dX10_flingOn_20 : decode cX10_flingOn 20 = .ok (.aload_n 0, 1) := by decide +kernel
theorem dX10_flingOn_21 : decode cX10_flingOn 21 = .ok (.getfield 16, 3) := by decide +kernel
theorem dX10_flingOn_24 : decode cX10_flingOn 24 = .ok (.iconst 5, 1) := by decide +kernel
theorem dX10_flingOn_25 : decode cX10_flingOn 25 = .ok (.iload_n 1, 1) := by decide +kernel
theorem dX10_flingOn_26 : decode cX10_flingOn 26 = .ok (.imul, 1) := by decide +kernel
theorem dX10_flingOn_27 : decode cX10_flingOn 27 = .ok (.iload_n 3, 1) := by decide +kernel
theorem dX10_flingOn_28 : decode cX10_flingOn 28 = .ok (.iadd, 1) := by decide +kernel
theorem dX10_flingOn_29 : decode cX10_flingOn 29 = .ok (.dup2, 1) := by decide +kernel
theorem dX10_flingOn_30 : decode cX10_flingOn 30 = .ok (.iaload, 1) := by decide +kernel
theorem dX10_flingOn_31 : decode cX10_flingOn 31 = .ok (.iload 4, 2) := by decide +kernel
theorem dX10_flingOn_33 : decode cX10_flingOn 33 = .ok (.ifCond .eq 7, 3) := by decide +kernel
theorem dX10_flingOn_36 : decode cX10_flingOn 36 = .ok (.iconst 1, 1) := by decide +kernel
theorem dX10_flingOn_37 : decode cX10_flingOn 37 = .ok (.goto 4, 3) := by decide +kernel
theorem dX10_flingOn_40 : decode cX10_flingOn 40 = .ok (.iconst 0, 1) := by decide +kernel
theorem dX10_flingOn_41 : decode cX10_flingOn 41 = .ok (.iadd, 1) := by decide +kernel
theorem dX10_flingOn_42 : decode cX10_flingOn 42 = .ok (.iastore, 1) := by decide +kernel
theorem dX10_flingOn_43 : decode cX10_flingOn 43 = .ok (.iload_n 2, 1) := by decide +kernel
theorem dX10_flingOn_44 : decode cX10_flingOn 44 = .ok (.iload 4, 2) := by decide +kernel
theorem dX10_flingOn_46 : decode cX10_flingOn 46 = .ok (.ifCond .eq 7, 3) := by decide +kernel
theorem dX10_flingOn_49 : decode cX10_flingOn 49 = .ok (.iconst 1, 1) := by decide +kernel
theorem dX10_flingOn_50 : decode cX10_flingOn 50 = .ok (.goto 4, 3) := by decide +kernel
theorem dX10_flingOn_53 : decode cX10_flingOn 53 = .ok (.iconst 0, 1) := by decide +kernel
theorem dX10_flingOn_54 : decode cX10_flingOn 54 = .ok (.iadd, 1) := by decide +kernel
theorem dX10_flingOn_55 : decode cX10_flingOn 55 = .ok (.istore_n 2, 1) := by decide +kernel
theorem dX10_flingOn_56 : decode cX10_flingOn 56 = .ok (.iinc 3 1, 3) := by decide +kernel
theorem dX10_flingOn_59 : decode cX10_flingOn 59 = .ok (.goto (-55), 3) := by decide +kernel
theorem dX10_flingOn_62 : decode cX10_flingOn 62 = .ok (.iload_n 2, 1) := by decide +kernel
theorem dX10_flingOn_63 : decode cX10_flingOn 63 = .ok (.ireturn, 1) := by decide +kernel
theorem dX10_gapsOf_0 : decode cX10_gapsOf 0 = .ok (.iconst 0, 1) := by decide +kernel
theorem dX10_gapsOf_1 : decode cX10_gapsOf 1 = .ok (.istore_n 2, 1) := by decide +kernel
theorem dX10_gapsOf_2 : decode cX10_gapsOf 2 = .ok (.iconst 0, 1) := by decide +kernel
theorem dX10_gapsOf_3 : decode cX10_gapsOf 3 = .ok (.istore_n 3, 1) := by decide +kernel
theorem dX10_gapsOf_4 : decode cX10_gapsOf 4 = .ok (.iload_n 3, 1) := by decide +kernel
theorem dX10_gapsOf_5 : decode cX10_gapsOf 5 = .ok (.aload_n 0, 1) := by decide +kernel
theorem dX10_gapsOf_6 : decode cX10_gapsOf 6 = .ok (.invokevirtual 81, 3) := by decide +kernel
theorem dX10_gapsOf_9 : decode cX10_gapsOf 9 = .ok (.if_icmp .ge 22, 3) := by decide +kernel
theorem dX10_gapsOf_12 : decode cX10_gapsOf 12 = .ok (.iload_n 2, 1) := by decide +kernel
theorem dX10_gapsOf_13 : decode cX10_gapsOf 13 = .ok (.aload_n 0, 1) := by decide +kernel
theorem dX10_gapsOf_14 : decode cX10_gapsOf 14 = .ok (.getfield 16, 3) := by decide +kernel
theorem dX10_gapsOf_17 : decode cX10_gapsOf 17 = .ok (.iconst 5, 1) := by decide +kernel
theorem dX10_gapsOf_18 : decode cX10_gapsOf 18 = .ok (.iload_n 1, 1) := by decide +kernel
theorem dX10_gapsOf_19 : decode cX10_gapsOf 19 = .ok (.imul, 1) := by decide +kernel
theorem dX10_gapsOf_20 : decode cX10_gapsOf 20 = .ok (.iload_n 3, 1) := by decide +kernel
theorem dX10_gapsOf_21 : decode cX10_gapsOf 21 = .ok (.iadd, 1) := by decide +kernel
theorem dX10_gapsOf_22 : decode cX10_gapsOf 22 = .ok (.iaload, 1) := by decide +kernel
theorem dX10_gapsOf_23 : decode cX10_gapsOf 23 = .ok (.iadd, 1) := by decide +kernel
theorem dX10_gapsOf_24 : decode cX10_gapsOf 24 = .ok (.istore_n 2, 1) := by decide +kernel
theorem dX10_gapsOf_25 : decode cX10_gapsOf 25 = .ok (.iinc 3 1, 3) := by decide +kernel
theorem dX10_gapsOf_28 : decode cX10_gapsOf 28 = .ok (.goto (-24), 3) := by decide +kernel
theorem dX10_gapsOf_31 : decode cX10_gapsOf 31 = .ok (.iload_n 2, 1) := by decide +kernel
theorem dX10_gapsOf_32 : decode cX10_gapsOf 32 = .ok (.ireturn, 1) := by decide +kernel
theorem dX10_snapOn_0 : decode cX10_snapOn 0 = .ok (.iconst 0, 1) := by decide +kernel
theorem dX10_snapOn_1 : decode cX10_snapOn 1 = .ok (.istore_n 2, 1) := by decide +kernel
theorem dX10_snapOn_2 : decode cX10_snapOn 2 = .ok (.iload_n 2, 1) := by decide +kernel
theorem dX10_snapOn_3 : decode cX10_snapOn 3 = .ok (.iconst 5, 1) := by decide +kernel
theorem dX10_snapOn_4 : decode cX10_snapOn 4 = .ok (.if_icmp .ge 20, 3) := by decide +kernel
theorem dX10_snapOn_7 : decode cX10_snapOn 7 = .ok (.aload_n 0, 1) := by decide +kernel
theorem dX10_snapOn_8 : decode cX10_snapOn 8 = .ok (.getfield 16, 3) := by decide +kernel
theorem dX10_snapOn_11 : decode cX10_snapOn 11 = .ok (.iconst 5, 1) := by decide +kernel
theorem dX10_snapOn_12 : decode cX10_snapOn 12 = .ok (.iload_n 1, 1) := by decide +kernel
theorem dX10_snapOn_13 : decode cX10_snapOn 13 = .ok (.imul, 1) := by decide +kernel
theorem dX10_snapOn_14 : decode cX10_snapOn 14 = .ok (.iload_n 2, 1) := by decide +kernel
theorem dX10_snapOn_15 : decode cX10_snapOn 15 = .ok (.iadd, 1) := by decide +kernel
theorem dX10_snapOn_16 : decode cX10_snapOn 16 = .ok (.iconst 0, 1) := by decide +kernel
theorem dX10_snapOn_17 : decode cX10_snapOn 17 = .ok (.iastore, 1) := by decide +kernel
theorem dX10_snapOn_18 : decode cX10_snapOn 18 = .ok (.iinc 2 1, 3) := by decide +kernel
theorem dX10_snapOn_21 : decode cX10_snapOn 21 = .ok (.goto (-19), 3) := by decide +kernel
theorem dX10_snapOn_24 : decode cX10_snapOn 24 = .ok (.return_, 1) := by decide +kernel
theorem dX10_fling_0 : decode cX10_fling 0 = .ok (.aload_n 0, 1) := by decide +kernel
theorem dX10_fling_1 : decode cX10_fling 1 = .ok (.invokevirtual 145, 3) := by decide +kernel
theorem dX10_fling_4 : decode cX10_fling 4 = .ok (.aload_n 0, 1) := by decide +kernel
theorem dX10_fling_5 : decode cX10_fling 5 = .ok (.iconst 0, 1) := by decide +kernel
theorem dX10_fling_6 : decode cX10_fling 6 = .ok (.invokevirtual 151, 3) := by decide +kernel
theorem dX10_fling_9 : decode cX10_fling 9 = .ok (.ireturn, 1) := by decide +kernel
theorem dX10_snap_0 : decode cX10_snap 0 = .ok (.aload_n 0, 1) := by decide +kernel
theorem dX10_snap_1 : decode cX10_snap 1 = .ok (.invokevirtual 145, 3) := by decide +kernel
theorem dX10_snap_4 : decode cX10_snap 4 = .ok (.aload_n 0, 1) := by decide +kernel
theorem dX10_snap_5 : decode cX10_snap 5 = .ok (.iconst 0, 1) := by decide +kernel
theorem dX10_snap_6 : decode cX10_snap 6 = .ok (.invokevirtual 154, 3) := by decide +kernel
theorem dX10_snap_9 : decode cX10_snap 9 = .ok (.istore_n 1, 1) := by decide +kernel
theorem dX10_snap_10 : decode cX10_snap 10 = .ok (.aload_n 0, 1) := by decide +kernel
theorem dX10_snap_11 : decode cX10_snap 11 = .ok (.iconst 0, 1) := by decide +kernel
theorem dX10_snap_12 : decode cX10_snap 12 = .ok (.invokevirtual 157, 3) := by decide +kernel
theorem dX10_snap_15 : decode cX10_snap 15 = .ok (.iload_n 1, 1) := by decide +kernel
theorem dX10_snap_16 : decode cX10_snap 16 = .ok (.ireturn, 1) := by decide +kernel
theorem dX10_undo_0 : decode cX10_undo 0 = .ok (.aload_n 0, 1) := by decide +kernel
theorem dX10_undo_1 : decode cX10_undo 1 = .ok (.getfield 78, 3) := by decide +kernel
theorem dX10_undo_4 : decode cX10_undo 4 = .ok (.ifCond .ne 6, 3) := by decide +kernel
theorem dX10_undo_7 : decode cX10_undo 7 = .ok (.bipush (-3), 2) := by decide +kernel
theorem dX10_undo_9 : decode cX10_undo 9 = .ok (.ireturn, 1) := by decide +kernel
theorem dX10_undo_10 : decode cX10_undo 10 = .ok (.aload_n 0, 1) := by decide +kernel
theorem dX10_undo_11 : decode cX10_undo 11 = .ok (.dup, 1) := by decide +kernel
theorem dX10_undo_12 : decode cX10_undo 12 = .ok (.getfield 78, 3) := by decide +kernel
theorem dX10_undo_15 : decode cX10_undo 15 = .ok (.iconst 1, 1) := by decide +kernel
theorem dX10_undo_16 : decode cX10_undo 16 = .ok (.isub, 1) := by decide +kernel
theorem dX10_undo_17 : decode cX10_undo 17 = .ok (.putfield 78, 3) := by decide +kernel
theorem dX10_undo_20 : decode cX10_undo 20 = .ok (.aload_n 0, 1) := by decide +kernel
theorem dX10_undo_21 : decode cX10_undo 21 = .ok (.aload_n 0, 1) := by decide +kernel
theorem dX10_undo_22 : decode cX10_undo 22 = .ok (.getfield 136, 3) := by decide +kernel
theorem dX10_undo_25 : decode cX10_undo 25 = .ok (.bipush 13, 2) := by decide +kernel
theorem dX10_undo_27 : decode cX10_undo 27 = .ok (.iadd, 1) := by decide +kernel
theorem dX10_undo_28 : decode cX10_undo 28 = .ok (.bipush 14, 2) := by decide +kernel
theorem dX10_undo_30 : decode cX10_undo 30 = .ok (.irem, 1) := by decide +kernel
theorem dX10_undo_31 : decode cX10_undo 31 = .ok (.putfield 136, 3) := by decide +kernel
theorem dX10_undo_34 : decode cX10_undo 34 = .ok (.iconst 0, 1) := by decide +kernel
theorem dX10_undo_35 : decode cX10_undo 35 = .ok (.istore_n 1, 1) := by decide +kernel
theorem dX10_undo_36 : decode cX10_undo 36 = .ok (.iload_n 1, 1) := by decide +kernel
theorem dX10_undo_37 : decode cX10_undo 37 = .ok (.iconst 5, 1) := by decide +kernel
theorem dX10_undo_38 : decode cX10_undo 38 = .ok (.if_icmp .ge 28, 3) := by decide +kernel
theorem dX10_undo_41 : decode cX10_undo 41 = .ok (.aload_n 0, 1) := by decide +kernel
theorem dX10_undo_42 : decode cX10_undo 42 = .ok (.getfield 16, 3) := by decide +kernel
theorem dX10_undo_45 : decode cX10_undo 45 = .ok (.iload_n 1, 1) := by decide +kernel
theorem dX10_undo_46 : decode cX10_undo 46 = .ok (.aload_n 0, 1) := by decide +kernel
theorem dX10_undo_47 : decode cX10_undo 47 = .ok (.getfield 31, 3) := by decide +kernel
theorem dX10_undo_50 : decode cX10_undo 50 = .ok (.iconst 5, 1) := by decide +kernel
theorem dX10_undo_51 : decode cX10_undo 51 = .ok (.aload_n 0, 1) := by decide +kernel
theorem dX10_undo_52 : decode cX10_undo 52 = .ok (.getfield 136, 3) := by decide +kernel
theorem dX10_undo_55 : decode cX10_undo 55 = .ok (.imul, 1) := by decide +kernel
theorem dX10_undo_56 : decode cX10_undo 56 = .ok (.iload_n 1, 1) := by decide +kernel
theorem dX10_undo_57 : decode cX10_undo 57 = .ok (.iadd, 1) := by decide +kernel
theorem dX10_undo_58 : decode cX10_undo 58 = .ok (.iaload, 1) := by decide +kernel
theorem dX10_undo_59 : decode cX10_undo 59 = .ok (.iastore, 1) := by decide +kernel
theorem dX10_undo_60 : decode cX10_undo 60 = .ok (.iinc 1 1, 3) := by decide +kernel
theorem dX10_undo_63 : decode cX10_undo 63 = .ok (.goto (-27), 3) := by decide +kernel
theorem dX10_undo_66 : decode cX10_undo 66 = .ok (.aload_n 0, 1) := by decide +kernel
theorem dX10_undo_67 : decode cX10_undo 67 = .ok (.getfield 78, 3) := by decide +kernel
theorem dX10_undo_70 : decode cX10_undo 70 = .ok (.ireturn, 1) := by decide +kernel
theorem dX10_layTrial_0 : decode cX10_layTrial 0 = .ok (.iconst 0, 1) := by decide +kernel
theorem dX10_layTrial_1 : decode cX10_layTrial 1 = .ok (.istore_n 1, 1) := by decide +kernel
theorem dX10_layTrial_2 : decode cX10_layTrial 2 = .ok (.iload_n 1, 1) := by decide +kernel
theorem dX10_layTrial_3 : decode cX10_layTrial 3 = .ok (.iconst 5, 1) := by decide +kernel
theorem dX10_layTrial_4 : decode cX10_layTrial 4 = .ok (.if_icmp .ge 23, 3) := by decide +kernel
theorem dX10_layTrial_7 : decode cX10_layTrial 7 = .ok (.aload_n 0, 1) := by decide +kernel
theorem dX10_layTrial_8 : decode cX10_layTrial 8 = .ok (.getfield 16, 3) := by decide +kernel
theorem dX10_layTrial_11 : decode cX10_layTrial 11 = .ok (.iconst 5, 1) := by decide +kernel
theorem dX10_layTrial_12 : decode cX10_layTrial 12 = .ok (.iload_n 1, 1) := by decide +kernel
theorem dX10_layTrial_13 : decode cX10_layTrial 13 = .ok (.iadd, 1) := by decide +kernel
theorem dX10_layTrial_14 : decode cX10_layTrial 14 = .ok (.aload_n 0, 1) := by decide +kernel
end
section
theorem dX10_layTrial_15 : decode cX10_layTrial 15 = .ok (.getfield 16, 3) := by decide +kernel
theorem dX10_layTrial_18 : decode cX10_layTrial 18 = .ok (.iload_n 1, 1) := by decide +kernel
theorem dX10_layTrial_19 : decode cX10_layTrial 19 = .ok (.iaload, 1) := by decide +kernel
theorem dX10_layTrial_20 : decode cX10_layTrial 20 = .ok (.iastore, 1) := by decide +kernel
theorem dX10_layTrial_21 : decode cX10_layTrial 21 = .ok (.iinc 1 1, 3) := by decide +kernel
theorem dX10_layTrial_24 : decode cX10_layTrial 24 = .ok (.goto (-22), 3) := by decide +kernel
theorem dX10_layTrial_27 : decode cX10_layTrial 27 = .ok (.return_, 1) := by decide +kernel
theorem dX10_reads_0 : decode cX10_reads 0 = .ok (.iload_n 1, 1) := by decide +kernel
theorem dX10_reads_1 : decode cX10_reads 1 = .ok (.i2l, 1) := by decide +kernel
theorem dX10_reads_2 : decode cX10_reads 2 = .ok (.lconst 0, 1) := by decide +kernel
theorem dX10_reads_3 : decode cX10_reads 3 = .ok (.lconst 1, 1) := by decide +kernel
theorem dX10_reads_4 : decode cX10_reads 4 = .ok (.invokestatic 52, 3) := by decide +kernel
theorem dX10_reads_7 : decode cX10_reads 7 = .ok (.ifCond .eq 14, 3) := by decide +kernel
theorem dX10_reads_10 : decode cX10_reads 10 = .ok (.aload_n 0, 1) := by decide +kernel
theorem dX10_reads_11 : decode cX10_reads 11 = .ok (.iconst 0, 1) := by decide +kernel
theorem dX10_reads_12 : decode cX10_reads 12 = .ok (.bipush 63, 2) := by decide +kernel
theorem dX10_reads_14 : decode cX10_reads 14 = .ok (.iload_n 1, 1) := by decide +kernel
theorem dX10_reads_15 : decode cX10_reads 15 = .ok (.invokevirtual 161, 3) := by decide +kernel
theorem dX10_reads_18 : decode cX10_reads 18 = .ok (.goto 5, 3) := by decide +kernel
theorem dX10_reads_21 : decode cX10_reads 21 = .ok (.bipush (-2), 2) := by decide +kernel
theorem dX10_reads_23 : decode cX10_reads 23 = .ok (.ireturn, 1) := by decide +kernel
theorem dX10_waysMany_0 : decode cX10_waysMany 0 = .ok (.iconst 1, 1) := by decide +kernel
theorem dX10_waysMany_1 : decode cX10_waysMany 1 = .ok (.istore_n 1, 1) := by decide +kernel
theorem dX10_waysMany_2 : decode cX10_waysMany 2 = .ok (.iconst 0, 1) := by decide +kernel
theorem dX10_waysMany_3 : decode cX10_waysMany 3 = .ok (.istore_n 2, 1) := by decide +kernel
theorem dX10_waysMany_4 : decode cX10_waysMany 4 = .ok (.iload_n 2, 1) := by decide +kernel
theorem dX10_waysMany_5 : decode cX10_waysMany 5 = .ok (.aload_n 0, 1) := by decide +kernel
theorem dX10_waysMany_6 : decode cX10_waysMany 6 = .ok (.invokevirtual 81, 3) := by decide +kernel
theorem dX10_waysMany_9 : decode cX10_waysMany 9 = .ok (.if_icmp .ge 13, 3) := by decide +kernel
theorem dX10_waysMany_12 : decode cX10_waysMany 12 = .ok (.iload_n 1, 1) := by decide +kernel
theorem dX10_waysMany_13 : decode cX10_waysMany 13 = .ok (.iconst 5, 1) := by decide +kernel
theorem dX10_waysMany_14 : decode cX10_waysMany 14 = .ok (.imul, 1) := by decide +kernel
theorem dX10_waysMany_15 : decode cX10_waysMany 15 = .ok (.istore_n 1, 1) := by decide +kernel
theorem dX10_waysMany_16 : decode cX10_waysMany 16 = .ok (.iinc 2 1, 3) := by decide +kernel
theorem dX10_waysMany_19 : decode cX10_waysMany 19 = .ok (.goto (-15), 3) := by decide +kernel
theorem dX10_waysMany_22 : decode cX10_waysMany 22 = .ok (.iload_n 1, 1) := by decide +kernel
theorem dX10_waysMany_23 : decode cX10_waysMany 23 = .ok (.ireturn, 1) := by decide +kernel
theorem dX10_layWay_0 : decode cX10_layWay 0 = .ok (.iload_n 1, 1) := by decide +kernel
theorem dX10_layWay_1 : decode cX10_layWay 1 = .ok (.istore_n 2, 1) := by decide +kernel
theorem dX10_layWay_2 : decode cX10_layWay 2 = .ok (.iconst 1, 1) := by decide +kernel
theorem dX10_layWay_3 : decode cX10_layWay 3 = .ok (.istore_n 3, 1) := by decide +kernel
theorem dX10_layWay_4 : decode cX10_layWay 4 = .ok (.aload_n 0, 1) := by decide +kernel
theorem dX10_layWay_5 : decode cX10_layWay 5 = .ok (.invokevirtual 81, 3) := by decide +kernel
theorem dX10_layWay_8 : decode cX10_layWay 8 = .ok (.iconst 1, 1) := by decide +kernel
theorem dX10_layWay_9 : decode cX10_layWay 9 = .ok (.isub, 1) := by decide +kernel
theorem dX10_layWay_10 : decode cX10_layWay 10 = .ok (.istore 4, 2) := by decide +kernel
theorem dX10_layWay_12 : decode cX10_layWay 12 = .ok (.iload 4, 2) := by decide +kernel
theorem dX10_layWay_14 : decode cX10_layWay 14 = .ok (.ifCond .lt 50, 3) := by decide +kernel
theorem dX10_layWay_17 : decode cX10_layWay 17 = .ok (.aload_n 0, 1) := by decide +kernel
theorem dX10_layWay_18 : decode cX10_layWay 18 = .ok (.getfield 16, 3) := by decide +kernel
theorem dX10_layWay_21 : decode cX10_layWay 21 = .ok (.iconst 5, 1) := by decide +kernel
theorem dX10_layWay_22 : decode cX10_layWay 22 = .ok (.iload 4, 2) := by decide +kernel
theorem dX10_layWay_24 : decode cX10_layWay 24 = .ok (.iadd, 1) := by decide +kernel
theorem dX10_layWay_25 : decode cX10_layWay 25 = .ok (.iload_n 2, 1) := by decide +kernel
theorem dX10_layWay_26 : decode cX10_layWay 26 = .ok (.iconst 5, 1) := by decide +kernel
theorem dX10_layWay_27 : decode cX10_layWay 27 = .ok (.irem, 1) := by decide +kernel
theorem dX10_layWay_28 : decode cX10_layWay 28 = .ok (.iastore, 1) := by decide +kernel
theorem dX10_layWay_29 : decode cX10_layWay 29 = .ok (.iload_n 3, 1) := by decide +kernel
theorem dX10_layWay_30 : decode cX10_layWay 30 = .ok (.ifCond .eq 22, 3) := by decide +kernel
theorem dX10_layWay_33 : decode cX10_layWay 33 = .ok (.aload_n 0, 1) := by decide +kernel
theorem dX10_layWay_34 : decode cX10_layWay 34 = .ok (.iload 4, 2) := by decide +kernel
theorem dX10_layWay_36 : decode cX10_layWay 36 = .ok (.invokevirtual 139, 3) := by decide +kernel
theorem dX10_layWay_39 : decode cX10_layWay 39 = .ok (.ifCond .ne 9, 3) := by decide +kernel
theorem dX10_layWay_42 : decode cX10_layWay 42 = .ok (.iload_n 2, 1) := by decide +kernel
theorem dX10_layWay_43 : decode cX10_layWay 43 = .ok (.iconst 5, 1) := by decide +kernel
theorem dX10_layWay_44 : decode cX10_layWay 44 = .ok (.irem, 1) := by decide +kernel
theorem dX10_layWay_45 : decode cX10_layWay 45 = .ok (.ifCond .ne 7, 3) := by decide +kernel
theorem dX10_layWay_48 : decode cX10_layWay 48 = .ok (.iconst 1, 1) := by decide +kernel
theorem dX10_layWay_49 : decode cX10_layWay 49 = .ok (.goto 4, 3) := by decide +kernel
theorem dX10_layWay_52 : decode cX10_layWay 52 = .ok (.iconst 0, 1) := by decide +kernel
theorem dX10_layWay_53 : decode cX10_layWay 53 = .ok (.istore_n 3, 1) := by decide +kernel
theorem dX10_layWay_54 : decode cX10_layWay 54 = .ok (.iload_n 2, 1) := by decide +kernel
theorem dX10_layWay_55 : decode cX10_layWay 55 = .ok (.iconst 5, 1) := by decide +kernel
theorem dX10_layWay_56 : decode cX10_layWay 56 = .ok (.idiv, 1) := by decide +kernel
theorem dX10_layWay_57 : decode cX10_layWay 57 = .ok (.istore_n 2, 1) := by decide +kernel
theorem dX10_layWay_58 : decode cX10_layWay 58 = .ok (.iinc 4 (-1), 3) := by decide +kernel
theorem dX10_layWay_61 : decode cX10_layWay 61 = .ok (.goto (-49), 3) := by decide +kernel
theorem dX10_layWay_64 : decode cX10_layWay 64 = .ok (.iload_n 3, 1) := by decide +kernel
theorem dX10_layWay_65 : decode cX10_layWay 65 = .ok (.ireturn, 1) := by decide +kernel
theorem dX10_figuresOf_0 : decode cX10_figuresOf 0 = .ok (.iconst 0, 1) := by decide +kernel
theorem dX10_figuresOf_1 : decode cX10_figuresOf 1 = .ok (.istore_n 2, 1) := by decide +kernel
theorem dX10_figuresOf_2 : decode cX10_figuresOf 2 = .ok (.iconst 0, 1) := by decide +kernel
theorem dX10_figuresOf_3 : decode cX10_figuresOf 3 = .ok (.istore_n 3, 1) := by decide +kernel
theorem dX10_figuresOf_4 : decode cX10_figuresOf 4 = .ok (.iload_n 3, 1) := by decide +kernel
theorem dX10_figuresOf_5 : decode cX10_figuresOf 5 = .ok (.aload_n 0, 1) := by decide +kernel
theorem dX10_figuresOf_6 : decode cX10_figuresOf 6 = .ok (.invokevirtual 81, 3) := by decide +kernel
theorem dX10_figuresOf_9 : decode cX10_figuresOf 9 = .ok (.if_icmp .ge 25, 3) := by decide +kernel
theorem dX10_figuresOf_12 : decode cX10_figuresOf 12 = .ok (.bipush 10, 2) := by decide +kernel
theorem dX10_figuresOf_14 : decode cX10_figuresOf 14 = .ok (.iload_n 2, 1) := by decide +kernel
theorem dX10_figuresOf_15 : decode cX10_figuresOf 15 = .ok (.imul, 1) := by decide +kernel
theorem dX10_figuresOf_16 : decode cX10_figuresOf 16 = .ok (.aload_n 0, 1) := by decide +kernel
theorem dX10_figuresOf_17 : decode cX10_figuresOf 17 = .ok (.getfield 16, 3) := by decide +kernel
theorem dX10_figuresOf_20 : decode cX10_figuresOf 20 = .ok (.iconst 5, 1) := by decide +kernel
theorem dX10_figuresOf_21 : decode cX10_figuresOf 21 = .ok (.iload_n 1, 1) := by decide +kernel
theorem dX10_figuresOf_22 : decode cX10_figuresOf 22 = .ok (.imul, 1) := by decide +kernel
theorem dX10_figuresOf_23 : decode cX10_figuresOf 23 = .ok (.iload_n 3, 1) := by decide +kernel
theorem dX10_figuresOf_24 : decode cX10_figuresOf 24 = .ok (.iadd, 1) := by decide +kernel
theorem dX10_figuresOf_25 : decode cX10_figuresOf 25 = .ok (.iaload, 1) := by decide +kernel
theorem dX10_figuresOf_26 : decode cX10_figuresOf 26 = .ok (.iadd, 1) := by decide +kernel
theorem dX10_figuresOf_27 : decode cX10_figuresOf 27 = .ok (.istore_n 2, 1) := by decide +kernel
theorem dX10_figuresOf_28 : decode cX10_figuresOf 28 = .ok (.iinc 3 1, 3) := by decide +kernel
theorem dX10_figuresOf_31 : decode cX10_figuresOf 31 = .ok (.goto (-27), 3) := by decide +kernel
theorem dX10_figuresOf_34 : decode cX10_figuresOf 34 = .ok (.iload_n 2, 1) := by decide +kernel
theorem dX10_figuresOf_35 : decode cX10_figuresOf 35 = .ok (.ireturn, 1) := by decide +kernel
theorem dX10_farOf_0 : decode cX10_farOf 0 = .ok (.iconst 0, 1) := by decide +kernel
theorem dX10_farOf_1 : decode cX10_farOf 1 = .ok (.istore_n 1, 1) := by decide +kernel
theorem dX10_farOf_2 : decode cX10_farOf 2 = .ok (.iconst 0, 1) := by decide +kernel
theorem dX10_farOf_3 : decode cX10_farOf 3 = .ok (.istore_n 2, 1) := by decide +kernel
theorem dX10_farOf_4 : decode cX10_farOf 4 = .ok (.iload_n 2, 1) := by decide +kernel
theorem dX10_farOf_5 : decode cX10_farOf 5 = .ok (.aload_n 0, 1) := by decide +kernel
theorem dX10_farOf_6 : decode cX10_farOf 6 = .ok (.invokevirtual 81, 3) := by decide +kernel
theorem dX10_farOf_9 : decode cX10_farOf 9 = .ok (.if_icmp .ge 38, 3) := by decide +kernel
theorem dX10_farOf_12 : decode cX10_farOf 12 = .ok (.aload_n 0, 1) := by decide +kernel
theorem dX10_farOf_13 : decode cX10_farOf 13 = .ok (.getfield 16, 3) := by decide +kernel
theorem dX10_farOf_16 : decode cX10_farOf 16 = .ok (.iconst 5, 1) := by decide +kernel
theorem dX10_farOf_17 : decode cX10_farOf 17 = .ok (.iload_n 2, 1) := by decide +kernel
theorem dX10_farOf_18 : decode cX10_farOf 18 = .ok (.iadd, 1) := by decide +kernel
theorem dX10_farOf_19 : decode cX10_farOf 19 = .ok (.iaload, 1) := by decide +kernel
theorem dX10_farOf_20 : decode cX10_farOf 20 = .ok (.aload_n 0, 1) := by decide +kernel
theorem dX10_farOf_21 : decode cX10_farOf 21 = .ok (.getfield 16, 3) := by decide +kernel
theorem dX10_farOf_24 : decode cX10_farOf 24 = .ok (.iload_n 2, 1) := by decide +kernel
theorem dX10_farOf_25 : decode cX10_farOf 25 = .ok (.iaload, 1) := by decide +kernel
theorem dX10_farOf_26 : decode cX10_farOf 26 = .ok (.isub, 1) := by decide +kernel
theorem dX10_farOf_27 : decode cX10_farOf 27 = .ok (.istore_n 3, 1) := by decide +kernel
theorem dX10_farOf_28 : decode cX10_farOf 28 = .ok (.iload_n 1, 1) := by decide +kernel
theorem dX10_farOf_29 : decode cX10_farOf 29 = .ok (.iload_n 3, 1) := by decide +kernel
theorem dX10_farOf_30 : decode cX10_farOf 30 = .ok (.ifCond .ge 8, 3) := by decide +kernel
theorem dX10_farOf_33 : decode cX10_farOf 33 = .ok (.iload_n 3, 1) := by decide +kernel
theorem dX10_farOf_34 : decode cX10_farOf 34 = .ok (.ineg, 1) := by decide +kernel
theorem dX10_farOf_35 : decode cX10_farOf 35 = .ok (.goto 4, 3) := by decide +kernel
theorem dX10_farOf_38 : decode cX10_farOf 38 = .ok (.iload_n 3, 1) := by decide +kernel
theorem dX10_farOf_39 : decode cX10_farOf 39 = .ok (.iadd, 1) := by decide +kernel
theorem dX10_farOf_40 : decode cX10_farOf 40 = .ok (.istore_n 1, 1) := by decide +kernel
theorem dX10_farOf_41 : decode cX10_farOf 41 = .ok (.iinc 2 1, 3) := by decide +kernel
theorem dX10_farOf_44 : decode cX10_farOf 44 = .ok (.goto (-40), 3) := by decide +kernel
theorem dX10_farOf_47 : decode cX10_farOf 47 = .ok (.iload_n 1, 1) := by decide +kernel
theorem dX10_farOf_48 : decode cX10_farOf 48 = .ok (.ireturn, 1) := by decide +kernel
theorem dX10_open_0 : decode cX10_open 0 = .ok (.iload_n 1, 1) := by decide +kernel
theorem dX10_open_1 : decode cX10_open 1 = .ok (.i2l, 1) := by decide +kernel
theorem dX10_open_2 : decode cX10_open 2 = .ok (.lconst 0, 1) := by decide +kernel
theorem dX10_open_3 : decode cX10_open 3 = .ok (.lconst 1, 1) := by decide +kernel
theorem dX10_open_4 : decode cX10_open 4 = .ok (.invokestatic 52, 3) := by decide +kernel
theorem dX10_open_7 : decode cX10_open 7 = .ok (.ifCond .eq 13, 3) := by decide +kernel
theorem dX10_open_10 : decode cX10_open 10 = .ok (.iload_n 2, 1) := by decide +kernel
theorem dX10_open_11 : decode cX10_open 11 = .ok (.i2l, 1) := by decide +kernel
theorem dX10_open_12 : decode cX10_open 12 = .ok (.lconst 0, 1) := by decide +kernel
theorem dX10_open_13 : decode cX10_open 13 = .ok (.lconst 1, 1) := by decide +kernel
theorem dX10_open_14 : decode cX10_open 14 = .ok (.invokestatic 52, 3) := by decide +kernel
theorem dX10_open_17 : decode cX10_open 17 = .ok (.ifCond .ne 6, 3) := by decide +kernel
theorem dX10_open_20 : decode cX10_open 20 = .ok (.bipush (-2), 2) := by decide +kernel
theorem dX10_open_22 : decode cX10_open 22 = .ok (.ireturn, 1) := by decide +kernel
theorem dX10_open_23 : decode cX10_open 23 = .ok (.bipush (-9), 2) := by decide +kernel
theorem dX10_open_25 : decode cX10_open 25 = .ok (.istore_n 3, 1) := by decide +kernel
theorem dX10_open_26 : decode cX10_open 26 = .ok (.bipush (-9), 2) := by decide +kernel
theorem dX10_open_28 : decode cX10_open 28 = .ok (.istore 4, 2) := by decide +kernel
theorem dX10_open_30 : decode cX10_open 30 = .ok (.iconst 0, 1) := by decide +kernel
theorem dX10_open_31 : decode cX10_open 31 = .ok (.istore 5, 2) := by decide +kernel
theorem dX10_open_33 : decode cX10_open 33 = .ok (.iload 5, 2) := by decide +kernel
theorem dX10_open_35 : decode cX10_open 35 = .ok (.aload_n 0, 1) := by decide +kernel
theorem dX10_open_36 : decode cX10_open 36 = .ok (.invokevirtual 164, 3) := by decide +kernel
theorem dX10_open_39 : decode cX10_open 39 = .ok (.if_icmp .ge 63, 3) := by decide +kernel
theorem dX10_open_42 : decode cX10_open 42 = .ok (.aload_n 0, 1) := by decide +kernel
theorem dX10_open_43 : decode cX10_open 43 = .ok (.iload 5, 2) := by decide +kernel
theorem dX10_open_45 : decode cX10_open 45 = .ok (.invokevirtual 167, 3) := by decide +kernel
theorem dX10_open_48 : decode cX10_open 48 = .ok (.istore 6, 2) := by decide +kernel
theorem dX10_open_50 : decode cX10_open 50 = .ok (.aload_n 0, 1) := by decide +kernel
theorem dX10_open_51 : decode cX10_open 51 = .ok (.invokevirtual 170, 3) := by decide +kernel
theorem dX10_open_54 : decode cX10_open 54 = .ok (.istore 7, 2) := by decide +kernel
theorem dX10_open_56 : decode cX10_open 56 = .ok (.iload 6, 2) := by decide +kernel
theorem dX10_open_58 : decode cX10_open 58 = .ok (.ifCond .eq 38, 3) := by decide +kernel
theorem dX10_open_61 : decode cX10_open 61 = .ok (.iload_n 3, 1) := by decide +kernel
theorem dX10_open_62 : decode cX10_open 62 = .ok (.bipush (-9), 2) := by decide +kernel
theorem dX10_open_64 : decode cX10_open 64 = .ok (.if_icmp .eq 9, 3) := by decide +kernel
theorem dX10_open_67 : decode cX10_open 67 = .ok (.iload 7, 2) := by decide +kernel
theorem dX10_open_69 : decode cX10_open 69 = .ok (.iload_n 3, 1) := by decide +kernel
theorem dX10_open_70 : decode cX10_open 70 = .ok (.if_icmp .ge 26, 3) := by decide +kernel
theorem dX10_open_73 : decode cX10_open 73 = .ok (.aload_n 0, 1) := by decide +kernel
theorem dX10_open_74 : decode cX10_open 74 = .ok (.iconst 1, 1) := by decide +kernel
theorem dX10_open_75 : decode cX10_open 75 = .ok (.bipush 63, 2) := by decide +kernel
theorem dX10_open_77 : decode cX10_open 77 = .ok (.iload_n 1, 1) := by decide +kernel
theorem dX10_open_78 : decode cX10_open 78 = .ok (.invokevirtual 161, 3) := by decide +kernel
theorem dX10_open_81 : decode cX10_open 81 = .ok (.bipush (-9), 2) := by decide +kernel
theorem dX10_open_83 : decode cX10_open 83 = .ok (.if_icmp .eq 13, 3) := by decide +kernel
theorem dX10_open_86 : decode cX10_open 86 = .ok (.iload 7, 2) := by decide +kernel
theorem dX10_open_88 : decode cX10_open 88 = .ok (.istore_n 3, 1) := by decide +kernel
theorem dX10_open_89 : decode cX10_open 89 = .ok (.aload_n 0, 1) := by decide +kernel
theorem dX10_open_90 : decode cX10_open 90 = .ok (.iconst 1, 1) := by decide +kernel
theorem dX10_open_91 : decode cX10_open 91 = .ok (.invokevirtual 173, 3) := by decide +kernel
theorem dX10_open_94 : decode cX10_open 94 = .ok (.istore 4, 2) := by decide +kernel
theorem dX10_open_96 : decode cX10_open 96 = .ok (.iinc 5 1, 3) := by decide +kernel
theorem dX10_open_99 : decode cX10_open 99 = .ok (.goto (-66), 3) := by decide +kernel
theorem dX10_open_102 : decode cX10_open 102 = .ok (.iload_n 2, 1) := by decide +kernel
theorem dX10_open_103 : decode cX10_open 103 = .ok (.ifCond .ne 7, 3) := by decide +kernel
theorem dX10_open_106 : decode cX10_open 106 = .ok (.iload_n 3, 1) := by decide +kernel
theorem dX10_open_107 : decode cX10_open 107 = .ok (.goto 5, 3) := by decide +kernel
theorem dX10_open_110 : decode cX10_open 110 = .ok (.iload 4, 2) := by decide +kernel
theorem dX10_open_112 : decode cX10_open 112 = .ok (.ireturn, 1) := by decide +kernel
theorem dX10_timesSeen_0 : decode cX10_timesSeen 0 = .ok (.iconst 0, 1) := by decide +kernel
theorem dX10_timesSeen_1 : decode cX10_timesSeen 1 = .ok (.istore_n 2, 1) := by decide +kernel
theorem dX10_timesSeen_2 : decode cX10_timesSeen 2 = .ok (.iconst 0, 1) := by decide +kernel
theorem dX10_timesSeen_3 : decode cX10_timesSeen 3 = .ok (.istore_n 3, 1) := by decide +kernel
theorem dX10_timesSeen_4 : decode cX10_timesSeen 4 = .ok (.iload_n 3, 1) := by decide +kernel
theorem dX10_timesSeen_5 : decode cX10_timesSeen 5 = .ok (.bipush 28, 2) := by decide +kernel
theorem dX10_timesSeen_7 : decode cX10_timesSeen 7 = .ok (.if_icmp .ge 30, 3) := by decide +kernel
theorem dX10_timesSeen_10 : decode cX10_timesSeen 10 = .ok (.iload_n 2, 1) := by decide +kernel
theorem dX10_timesSeen_11 : decode cX10_timesSeen 11 = .ok (.aload_n 0, 1) := by decide +kernel
theorem dX10_timesSeen_12 : decode cX10_timesSeen 12 = .ok (.iconst 1, 1) := by decide +kernel
theorem dX10_timesSeen_13 : decode cX10_timesSeen 13 = .ok (.bipush 63, 2) := by decide +kernel
theorem dX10_timesSeen_15 : decode cX10_timesSeen 15 = .ok (.iload_n 3, 1) := by decide +kernel
theorem dX10_timesSeen_16 : decode cX10_timesSeen 16 = .ok (.iconst 0, 1) := by decide +kernel
theorem dX10_timesSeen_17 : decode cX10_timesSeen 17 = .ok (.invokevirtual 119, 3) := by decide +kernel
theorem dX10_timesSeen_20 : decode cX10_timesSeen 20 = .ok (.iload_n 1, 1) := by decide +kernel
theorem dX10_timesSeen_21 : decode cX10_timesSeen 21 = .ok (.if_icmp .ne 7, 3) := by decide +kernel
theorem dX10_timesSeen_24 : decode cX10_timesSeen 24 = .ok (.iconst 1, 1) := by decide +kernel
theorem dX10_timesSeen_25 : decode cX10_timesSeen 25 = .ok (.goto 4, 3) := by decide +kernel
theorem dX10_timesSeen_28 : decode cX10_timesSeen 28 = .ok (.iconst 0, 1) := by decide +kernel
theorem dX10_timesSeen_29 : decode cX10_timesSeen 29 = .ok (.iadd, 1) := by decide +kernel
theorem dX10_timesSeen_30 : decode cX10_timesSeen 30 = .ok (.istore_n 2, 1) := by decide +kernel
theorem dX10_timesSeen_31 : decode cX10_timesSeen 31 = .ok (.iinc 3 1, 3) := by decide +kernel
theorem dX10_timesSeen_34 : decode cX10_timesSeen 34 = .ok (.goto (-30), 3) := by decide +kernel
theorem dX10_timesSeen_37 : decode cX10_timesSeen 37 = .ok (.iload_n 2, 1) := by decide +kernel
theorem dX10_timesSeen_38 : decode cX10_timesSeen 38 = .ok (.ireturn, 1) := by decide +kernel
theorem dX10_most_0 : decode cX10_most 0 = .ok (.iload_n 1, 1) := by decide +kernel
theorem dX10_most_1 : decode cX10_most 1 = .ok (.i2l, 1) := by decide +kernel
theorem dX10_most_2 : decode cX10_most 2 = .ok (.ldc2_w 67, 3) := by decide +kernel
theorem dX10_most_5 : decode cX10_most 5 = .ok (.ldc2_w 69, 3) := by decide +kernel
theorem dX10_most_8 : decode cX10_most 8 = .ok (.invokestatic 52, 3) := by decide +kernel
theorem dX10_most_11 : decode cX10_most 11 = .ok (.ifCond .eq 13, 3) := by decide +kernel
theorem dX10_most_14 : decode cX10_most 14 = .ok (.iload_n 2, 1) := by decide +kernel
theorem dX10_most_15 : decode cX10_most 15 = .ok (.i2l, 1) := by decide +kernel
theorem dX10_most_16 : decode cX10_most 16 = .ok (.lconst 0, 1) := by decide +kernel
theorem dX10_most_17 : decode cX10_most 17 = .ok (.lconst 1, 1) := by decide +kernel
theorem dX10_most_18 : decode cX10_most 18 = .ok (.invokestatic 52, 3) := by decide +kernel
theorem dX10_most_21 : decode cX10_most 21 = .ok (.ifCond .ne 6, 3) := by decide +kernel
theorem dX10_most_24 : decode cX10_most 24 = .ok (.bipush (-2), 2) := by decide +kernel
theorem dX10_most_26 : decode cX10_most 26 = .ok (.ireturn, 1) := by decide +kernel
theorem dX10_most_27 : decode cX10_most 27 = .ok (.bipush (-9), 2) := by decide +kernel
theorem dX10_most_29 : decode cX10_most 29 = .ok (.istore_n 3, 1) := by decide +kernel
theorem dX10_most_30 : decode cX10_most 30 = .ok (.iconst 0, 1) := by decide +kernel
theorem dX10_most_31 : decode cX10_most 31 = .ok (.istore 4, 2) := by decide +kernel
theorem dX10_most_33 : decode cX10_most 33 = .ok (.iconst 0, 1) := by decide +kernel
theorem dX10_most_34 : decode cX10_most 34 = .ok (.istore 5, 2) := by decide +kernel
theorem dX10_most_36 : decode cX10_most 36 = .ok (.iload 5, 2) := by decide +kernel
theorem dX10_most_38 : decode cX10_most 38 = .ok (.aload_n 0, 1) := by decide +kernel
theorem dX10_most_39 : decode cX10_most 39 = .ok (.invokevirtual 164, 3) := by decide +kernel
theorem dX10_most_42 : decode cX10_most 42 = .ok (.if_icmp .ge 64, 3) := by decide +kernel
theorem dX10_most_45 : decode cX10_most 45 = .ok (.aload_n 0, 1) := by decide +kernel
theorem dX10_most_46 : decode cX10_most 46 = .ok (.iload 5, 2) := by decide +kernel
theorem dX10_most_48 : decode cX10_most 48 = .ok (.invokevirtual 167, 3) := by decide +kernel
theorem dX10_most_51 : decode cX10_most 51 = .ok (.ifCond .eq 14, 3) := by decide +kernel
theorem dX10_most_54 : decode cX10_most 54 = .ok (.aload_n 0, 1) := by decide +kernel
theorem dX10_most_55 : decode cX10_most 55 = .ok (.iload_n 1, 1) := by decide +kernel
theorem dX10_most_56 : decode cX10_most 56 = .ok (.bipush 97, 2) := by decide +kernel
theorem dX10_most_58 : decode cX10_most 58 = .ok (.isub, 1) := by decide +kernel
theorem dX10_most_59 : decode cX10_most 59 = .ok (.invokevirtual 176, 3) := by decide +kernel
theorem dX10_most_62 : decode cX10_most 62 = .ok (.goto 5, 3) := by decide +kernel
theorem dX10_most_65 : decode cX10_most 65 = .ok (.bipush (-9), 2) := by decide +kernel
theorem dX10_most_67 : decode cX10_most 67 = .ok (.istore 6, 2) := by decide +kernel
theorem dX10_most_69 : decode cX10_most 69 = .ok (.iload 6, 2) := by decide +kernel
theorem dX10_most_71 : decode cX10_most 71 = .ok (.iload_n 3, 1) := by decide +kernel
theorem dX10_most_72 : decode cX10_most 72 = .ok (.if_icmp .le 11, 3) := by decide +kernel
theorem dX10_most_75 : decode cX10_most 75 = .ok (.aload_n 0, 1) := by decide +kernel
theorem dX10_most_76 : decode cX10_most 76 = .ok (.iconst 1, 1) := by decide +kernel
theorem dX10_most_77 : decode cX10_most 77 = .ok (.invokevirtual 173, 3) := by decide +kernel
theorem dX10_most_80 : decode cX10_most 80 = .ok (.goto 5, 3) := by decide +kernel
theorem dX10_most_83 : decode cX10_most 83 = .ok (.iload 4, 2) := by decide +kernel
theorem dX10_most_85 : decode cX10_most 85 = .ok (.istore 4, 2) := by decide +kernel
theorem dX10_most_87 : decode cX10_most 87 = .ok (.iload 6, 2) := by decide +kernel
theorem dX10_most_89 : decode cX10_most 89 = .ok (.iload_n 3, 1) := by decide +kernel
theorem dX10_most_90 : decode cX10_most 90 = .ok (.if_icmp .le 8, 3) := by decide +kernel
theorem dX10_most_93 : decode cX10_most 93 = .ok (.iload 6, 2) := by decide +kernel
theorem dX10_most_95 : decode cX10_most 95 = .ok (.goto 4, 3) := by decide +kernel
theorem dX10_most_98 : decode cX10_most 98 = .ok (.iload_n 3, 1) := by decide +kernel
theorem dX10_most_99 : decode cX10_most 99 = .ok (.istore_n 3, 1) := by decide +kernel
theorem dX10_most_100 : decode cX10_most 100 = .ok (.iinc 5 1, 3) := by decide +kernel
theorem dX10_most_103 : decode cX10_most 103 = .ok (.goto (-67), 3) := by decide +kernel
theorem dX10_most_106 : decode cX10_most 106 = .ok (.iload_n 2, 1) := by decide +kernel
theorem dX10_most_107 : decode cX10_most 107 = .ok (.ifCond .ne 7, 3) := by decide +kernel
theorem dX10_most_110 : decode cX10_most 110 = .ok (.iload_n 3, 1) := by decide +kernel
theorem dX10_most_111 : decode cX10_most 111 = .ok (.goto 5, 3) := by decide +kernel
theorem dX10_most_114 : decode cX10_most 114 = .ok (.iload 4, 2) := by decide +kernel
theorem dX10_most_116 : decode cX10_most 116 = .ok (.ireturn, 1) := by decide +kernel
theorem dX10_tryThing_0 : decode cX10_tryThing 0 = .ok (.iload_n 1, 1) := by decide +kernel
theorem dX10_tryThing_1 : decode cX10_tryThing 1 = .ok (.tableswitch 240 1 7 #[43, 83, 123, 143, 162, 195, 220], 43) := by decide +kernel
theorem dX10_tryThing_44 : decode cX10_tryThing 44 = .ok (.iload_n 2, 1) := by decide +kernel
theorem dX10_tryThing_45 : decode cX10_tryThing 45 = .ok (.ifCond .ne 16, 3) := by decide +kernel
theorem dX10_tryThing_48 : decode cX10_tryThing 48 = .ok (.aload_n 0, 1) := by decide +kernel
theorem dX10_tryThing_49 : decode cX10_tryThing 49 = .ok (.iconst 1, 1) := by decide +kernel
theorem dX10_tryThing_50 : decode cX10_tryThing 50 = .ok (.iload_n 3, 1) := by decide +kernel
theorem dX10_tryThing_51 : decode cX10_tryThing 51 = .ok (.invokevirtual 142, 3) := by decide +kernel
theorem dX10_tryThing_54 : decode cX10_tryThing 54 = .ok (.ifCond .eq 7, 3) := by decide +kernel
theorem dX10_tryThing_57 : decode cX10_tryThing 57 = .ok (.iconst 1, 1) := by decide +kernel
theorem dX10_tryThing_58 : decode cX10_tryThing 58 = .ok (.goto 4, 3) := by decide +kernel
theorem dX10_tryThing_61 : decode cX10_tryThing 61 = .ok (.iconst 0, 1) := by decide +kernel
theorem dX10_tryThing_62 : decode cX10_tryThing 62 = .ok (.istore 4, 2) := by decide +kernel
theorem dX10_tryThing_64 : decode cX10_tryThing 64 = .ok (.iload 4, 2) := by decide +kernel
theorem dX10_tryThing_66 : decode cX10_tryThing 66 = .ok (.ifCond .eq 15, 3) := by decide +kernel
theorem dX10_tryThing_69 : decode cX10_tryThing 69 = .ok (.aload_n 0, 1) := by decide +kernel
theorem dX10_tryThing_70 : decode cX10_tryThing 70 = .ok (.getfield 16, 3) := by decide +kernel
theorem dX10_tryThing_73 : decode cX10_tryThing 73 = .ok (.iconst 5, 1) := by decide +kernel
theorem dX10_tryThing_74 : decode cX10_tryThing 74 = .ok (.iload_n 3, 1) := by decide +kernel
theorem dX10_tryThing_75 : decode cX10_tryThing 75 = .ok (.iadd, 1) := by decide +kernel
theorem dX10_tryThing_76 : decode cX10_tryThing 76 = .ok (.dup2, 1) := by decide +kernel
theorem dX10_tryThing_77 : decode cX10_tryThing 77 = .ok (.iaload, 1) := by decide +kernel
theorem dX10_tryThing_78 : decode cX10_tryThing 78 = .ok (.iconst 1, 1) := by decide +kernel
theorem dX10_tryThing_79 : decode cX10_tryThing 79 = .ok (.iadd, 1) := by decide +kernel
theorem dX10_tryThing_80 : decode cX10_tryThing 80 = .ok (.iastore, 1) := by decide +kernel
theorem dX10_tryThing_81 : decode cX10_tryThing 81 = .ok (.iload 4, 2) := by decide +kernel
theorem dX10_tryThing_83 : decode cX10_tryThing 83 = .ok (.ireturn, 1) := by decide +kernel
theorem dX10_tryThing_84 : decode cX10_tryThing 84 = .ok (.iload_n 2, 1) := by decide +kernel
theorem dX10_tryThing_85 : decode cX10_tryThing 85 = .ok (.ifCond .ne 16, 3) := by decide +kernel
theorem dX10_tryThing_88 : decode cX10_tryThing 88 = .ok (.aload_n 0, 1) := by decide +kernel
theorem dX10_tryThing_89 : decode cX10_tryThing 89 = .ok (.iconst 1, 1) := by decide +kernel
theorem dX10_tryThing_90 : decode cX10_tryThing 90 = .ok (.iload_n 3, 1) := by decide +kernel
theorem dX10_tryThing_91 : decode cX10_tryThing 91 = .ok (.invokevirtual 148, 3) := by decide +kernel
theorem dX10_tryThing_94 : decode cX10_tryThing 94 = .ok (.ifCond .eq 7, 3) := by decide +kernel
theorem dX10_tryThing_97 : decode cX10_tryThing 97 = .ok (.iconst 1, 1) := by decide +kernel
theorem dX10_tryThing_98 : decode cX10_tryThing 98 = .ok (.goto 4, 3) := by decide +kernel
theorem dX10_tryThing_101 : decode cX10_tryThing 101 = .ok (.iconst 0, 1) := by decide +kernel
theorem dX10_tryThing_102 : decode cX10_tryThing 102 = .ok (.istore 5, 2) := by decide +kernel
theorem dX10_tryThing_104 : decode cX10_tryThing 104 = .ok (.iload 5, 2) := by decide +kernel
theorem dX10_tryThing_106 : decode cX10_tryThing 106 = .ok (.ifCond .eq 15, 3) := by decide +kernel
theorem dX10_tryThing_109 : decode cX10_tryThing 109 = .ok (.aload_n 0, 1) := by decide +kernel
theorem dX10_tryThing_110 : decode cX10_tryThing 110 = .ok (.getfield 16, 3) := by decide +kernel
theorem dX10_tryThing_113 : decode cX10_tryThing 113 = .ok (.iconst 5, 1) := by decide +kernel
theorem dX10_tryThing_114 : decode cX10_tryThing 114 = .ok (.iload_n 3, 1) := by decide +kernel
theorem dX10_tryThing_115 : decode cX10_tryThing 115 = .ok (.iadd, 1) := by decide +kernel
theorem dX10_tryThing_116 : decode cX10_tryThing 116 = .ok (.dup2, 1) := by decide +kernel
theorem dX10_tryThing_117 : decode cX10_tryThing 117 = .ok (.iaload, 1) := by decide +kernel
theorem dX10_tryThing_118 : decode cX10_tryThing 118 = .ok (.iconst 1, 1) := by decide +kernel
theorem dX10_tryThing_119 : decode cX10_tryThing 119 = .ok (.isub, 1) := by decide +kernel
theorem dX10_tryThing_120 : decode cX10_tryThing 120 = .ok (.iastore, 1) := by decide +kernel
theorem dX10_tryThing_121 : decode cX10_tryThing 121 = .ok (.iload 5, 2) := by decide +kernel
theorem dX10_tryThing_123 : decode cX10_tryThing 123 = .ok (.ireturn, 1) := by decide +kernel
theorem dX10_tryThing_124 : decode cX10_tryThing 124 = .ok (.aload_n 0, 1) := by decide +kernel
theorem dX10_tryThing_125 : decode cX10_tryThing 125 = .ok (.iconst 1, 1) := by decide +kernel
theorem dX10_tryThing_126 : decode cX10_tryThing 126 = .ok (.invokevirtual 151, 3) := by decide +kernel
theorem dX10_tryThing_129 : decode cX10_tryThing 129 = .ok (.pop, 1) := by decide +kernel
theorem dX10_tryThing_130 : decode cX10_tryThing 130 = .ok (.iload_n 2, 1) := by decide +kernel
theorem dX10_tryThing_131 : decode cX10_tryThing 131 = .ok (.ifCond .ne 11, 3) := by decide +kernel
theorem dX10_tryThing_134 : decode cX10_tryThing 134 = .ok (.iload_n 3, 1) := by decide +kernel
theorem dX10_tryThing_135 : decode cX10_tryThing 135 = .ok (.ifCond .ne 7, 3) := by decide +kernel
theorem dX10_tryThing_138 : decode cX10_tryThing 138 = .ok (.iconst 1, 1) := by decide +kernel
theorem dX10_tryThing_139 : decode cX10_tryThing 139 = .ok (.goto 4, 3) := by decide +kernel
theorem dX10_tryThing_142 : decode cX10_tryThing 142 = .ok (.iconst 0, 1) := by decide +kernel
theorem dX10_tryThing_143 : decode cX10_tryThing 143 = .ok (.ireturn, 1) := by decide +kernel
theorem dX10_tryThing_144 : decode cX10_tryThing 144 = .ok (.aload_n 0, 1) := by decide +kernel
theorem dX10_tryThing_145 : decode cX10_tryThing 145 = .ok (.iconst 1, 1) := by decide +kernel
theorem dX10_tryThing_146 : decode cX10_tryThing 146 = .ok (.invokevirtual 157, 3) := by decide +kernel
theorem dX10_tryThing_149 : decode cX10_tryThing 149 = .ok (.iload_n 2, 1) := by decide +kernel
theorem dX10_tryThing_150 : decode cX10_tryThing 150 = .ok (.ifCond .ne 11, 3) := by decide +kernel
theorem dX10_tryThing_153 : decode cX10_tryThing 153 = .ok (.iload_n 3, 1) := by decide +kernel
theorem dX10_tryThing_154 : decode cX10_tryThing 154 = .ok (.ifCond .ne 7, 3) := by decide +kernel
theorem dX10_tryThing_157 : decode cX10_tryThing 157 = .ok (.iconst 1, 1) := by decide +kernel
theorem dX10_tryThing_158 : decode cX10_tryThing 158 = .ok (.goto 4, 3) := by decide +kernel
theorem dX10_tryThing_161 : decode cX10_tryThing 161 = .ok (.iconst 0, 1) := by decide +kernel
theorem dX10_tryThing_162 : decode cX10_tryThing 162 = .ok (.ireturn, 1) := by decide +kernel
theorem dX10_tryThing_163 : decode cX10_tryThing 163 = .ok (.iload_n 2, 1) := by decide +kernel
theorem dX10_tryThing_164 : decode cX10_tryThing 164 = .ok (.ifCond .ne 30, 3) := by decide +kernel
theorem dX10_tryThing_167 : decode cX10_tryThing 167 = .ok (.iload_n 3, 1) := by decide +kernel
theorem dX10_tryThing_168 : decode cX10_tryThing 168 = .ok (.i2l, 1) := by decide +kernel
theorem dX10_tryThing_169 : decode cX10_tryThing 169 = .ok (.lconst 0, 1) := by decide +kernel
theorem dX10_tryThing_170 : decode cX10_tryThing 170 = .ok (.lconst 1, 1) := by decide +kernel
theorem dX10_tryThing_171 : decode cX10_tryThing 171 = .ok (.invokestatic 52, 3) := by decide +kernel
theorem dX10_tryThing_174 : decode cX10_tryThing 174 = .ok (.ifCond .eq 20, 3) := by decide +kernel
theorem dX10_tryThing_177 : decode cX10_tryThing 177 = .ok (.aload_n 0, 1) := by decide +kernel
theorem dX10_tryThing_178 : decode cX10_tryThing 178 = .ok (.iconst 1, 1) := by decide +kernel
theorem dX10_tryThing_179 : decode cX10_tryThing 179 = .ok (.bipush 63, 2) := by decide +kernel
theorem dX10_tryThing_181 : decode cX10_tryThing 181 = .ok (.iload_n 3, 1) := by decide +kernel
theorem dX10_tryThing_182 : decode cX10_tryThing 182 = .ok (.invokevirtual 161, 3) := by decide +kernel
theorem dX10_tryThing_185 : decode cX10_tryThing 185 = .ok (.bipush (-9), 2) := by decide +kernel
theorem dX10_tryThing_187 : decode cX10_tryThing 187 = .ok (.if_icmp .eq 7, 3) := by decide +kernel
theorem dX10_tryThing_190 : decode cX10_tryThing 190 = .ok (.iconst 1, 1) := by decide +kernel
theorem dX10_tryThing_191 : decode cX10_tryThing 191 = .ok (.goto 4, 3) := by decide +kernel
theorem dX10_tryThing_194 : decode cX10_tryThing 194 = .ok (.iconst 0, 1) := by decide +kernel
theorem dX10_tryThing_195 : decode cX10_tryThing 195 = .ok (.ireturn, 1) := by decide +kernel
theorem dX10_tryThing_196 : decode cX10_tryThing 196 = .ok (.aload_n 0, 1) := by decide +kernel
theorem dX10_tryThing_197 : decode cX10_tryThing 197 = .ok (.iload_n 2, 1) := by decide +kernel
theorem dX10_tryThing_198 : decode cX10_tryThing 198 = .ok (.invokevirtual 126, 3) := by decide +kernel
theorem dX10_tryThing_201 : decode cX10_tryThing 201 = .ok (.ifCond .eq 18, 3) := by decide +kernel
theorem dX10_tryThing_204 : decode cX10_tryThing 204 = .ok (.aload_n 0, 1) := by decide +kernel
theorem dX10_tryThing_205 : decode cX10_tryThing 205 = .ok (.iconst 1, 1) := by decide +kernel
theorem dX10_tryThing_206 : decode cX10_tryThing 206 = .ok (.iload_n 2, 1) := by decide +kernel
theorem dX10_tryThing_207 : decode cX10_tryThing 207 = .ok (.iconst 0, 1) := by decide +kernel
theorem dX10_tryThing_208 : decode cX10_tryThing 208 = .ok (.invokevirtual 130, 3) := by decide +kernel
theorem dX10_tryThing_211 : decode cX10_tryThing 211 = .ok (.iload_n 3, 1) := by decide +kernel
theorem dX10_tryThing_212 : decode cX10_tryThing 212 = .ok (.if_icmp .lt 7, 3) := by decide +kernel
theorem dX10_tryThing_215 : decode cX10_tryThing 215 = .ok (.iconst 1, 1) := by decide +kernel
theorem dX10_tryThing_216 : decode cX10_tryThing 216 = .ok (.goto 4, 3) := by decide +kernel
theorem dX10_tryThing_219 : decode cX10_tryThing 219 = .ok (.iconst 0, 1) := by decide +kernel
theorem dX10_tryThing_220 : decode cX10_tryThing 220 = .ok (.ireturn, 1) := by decide +kernel
theorem dX10_tryThing_221 : decode cX10_tryThing 221 = .ok (.aload_n 0, 1) := by decide +kernel
theorem dX10_tryThing_222 : decode cX10_tryThing 222 = .ok (.iconst 1, 1) := by decide +kernel
theorem dX10_tryThing_223 : decode cX10_tryThing 223 = .ok (.invokevirtual 179, 3) := by decide +kernel
theorem dX10_tryThing_226 : decode cX10_tryThing 226 = .ok (.bipush 10, 2) := by decide +kernel
theorem dX10_tryThing_228 : decode cX10_tryThing 228 = .ok (.iload_n 2, 1) := by decide +kernel
theorem dX10_tryThing_229 : decode cX10_tryThing 229 = .ok (.imul, 1) := by decide +kernel
theorem dX10_tryThing_230 : decode cX10_tryThing 230 = .ok (.iload_n 3, 1) := by decide +kernel
theorem dX10_tryThing_231 : decode cX10_tryThing 231 = .ok (.iadd, 1) := by decide +kernel
theorem dX10_tryThing_232 : decode cX10_tryThing 232 = .ok (.if_icmp .lt 7, 3) := by decide +kernel
theorem dX10_tryThing_235 : decode cX10_tryThing 235 = .ok (.iconst 1, 1) := by decide +kernel
theorem dX10_tryThing_236 : decode cX10_tryThing 236 = .ok (.goto 4, 3) := by decide +kernel
theorem dX10_tryThing_239 : decode cX10_tryThing 239 = .ok (.iconst 0, 1) := by decide +kernel
theorem dX10_tryThing_240 : decode cX10_tryThing 240 = .ok (.ireturn, 1) := by decide +kernel
theorem dX10_tryThing_241 : decode cX10_tryThing 241 = .ok (.iconst 0, 1) := by decide +kernel
theorem dX10_tryThing_242 : decode cX10_tryThing 242 = .ok (.ireturn, 1) := by decide +kernel
theorem dX10_thousandTo_0 : decode cX10_thousandTo 0 = .ok (.lconst 1, 1) := by decide +kernel
theorem dX10_thousandTo_1 : decode cX10_thousandTo 1 = .ok (.lstore_n 1, 1) := by decide +kernel
theorem dX10_thousandTo_2 : decode cX10_thousandTo 2 = .ok (.iconst 0, 1) := by decide +kernel
theorem dX10_thousandTo_3 : decode cX10_thousandTo 3 = .ok (.istore_n 3, 1) := by decide +kernel
theorem dX10_thousandTo_4 : decode cX10_thousandTo 4 = .ok (.iload_n 3, 1) := by decide +kernel
theorem dX10_thousandTo_5 : decode cX10_thousandTo 5 = .ok (.iload_n 0, 1) := by decide +kernel
theorem dX10_thousandTo_6 : decode cX10_thousandTo 6 = .ok (.if_icmp .ge 15, 3) := by decide +kernel
theorem dX10_thousandTo_9 : decode cX10_thousandTo 9 = .ok (.lload_n 1, 1) := by decide +kernel
theorem dX10_thousandTo_10 : decode cX10_thousandTo 10 = .ok (.ldc2_w 182, 3) := by decide +kernel
theorem dX10_thousandTo_13 : decode cX10_thousandTo 13 = .ok (.lmul, 1) := by decide +kernel
theorem dX10_thousandTo_14 : decode cX10_thousandTo 14 = .ok (.lstore_n 1, 1) := by decide +kernel
theorem dX10_thousandTo_15 : decode cX10_thousandTo 15 = .ok (.iinc 3 1, 3) := by decide +kernel
theorem dX10_thousandTo_18 : decode cX10_thousandTo 18 = .ok (.goto (-14), 3) := by decide +kernel
theorem dX10_thousandTo_21 : decode cX10_thousandTo 21 = .ok (.lload_n 1, 1) := by decide +kernel
theorem dX10_thousandTo_22 : decode cX10_thousandTo 22 = .ok (.lreturn, 1) := by decide +kernel
theorem dX10_judge_0 : decode cX10_judge 0 = .ok (.iload_n 1, 1) := by decide +kernel
theorem dX10_judge_1 : decode cX10_judge 1 = .ok (.i2l, 1) := by decide +kernel
theorem dX10_judge_2 : decode cX10_judge 2 = .ok (.lconst 1, 1) := by decide +kernel
theorem dX10_judge_3 : decode cX10_judge 3 = .ok (.ldc2_w 184, 3) := by decide +kernel
theorem dX10_judge_6 : decode cX10_judge 6 = .ok (.invokestatic 52, 3) := by decide +kernel
theorem dX10_judge_9 : decode cX10_judge 9 = .ok (.ifCond .eq 17, 3) := by decide +kernel
theorem dX10_judge_12 : decode cX10_judge 12 = .ok (.lload_n 2, 1) := by decide +kernel
theorem dX10_judge_13 : decode cX10_judge 13 = .ok (.lconst 0, 1) := by decide +kernel
theorem dX10_judge_14 : decode cX10_judge 14 = .ok (.iload_n 1, 1) := by decide +kernel
theorem dX10_judge_15 : decode cX10_judge 15 = .ok (.invokestatic 186, 3) := by decide +kernel
theorem dX10_judge_18 : decode cX10_judge 18 = .ok (.lconst 1, 1) := by decide +kernel
theorem dX10_judge_19 : decode cX10_judge 19 = .ok (.lsub, 1) := by decide +kernel
theorem dX10_judge_20 : decode cX10_judge 20 = .ok (.invokestatic 52, 3) := by decide +kernel
theorem dX10_judge_23 : decode cX10_judge 23 = .ok (.ifCond .ne 6, 3) := by decide +kernel
theorem dX10_judge_26 : decode cX10_judge 26 = .ok (.bipush (-2), 2) := by decide +kernel
theorem dX10_judge_28 : decode cX10_judge 28 = .ok (.ireturn, 1) := by decide +kernel
theorem dX10_judge_29 : decode cX10_judge 29 = .ok (.aload_n 0, 1) := by decide +kernel
theorem dX10_judge_30 : decode cX10_judge 30 = .ok (.invokevirtual 189, 3) := by decide +kernel
theorem dX10_judge_33 : decode cX10_judge 33 = .ok (.iconst 0, 1) := by decide +kernel
theorem dX10_judge_34 : decode cX10_judge 34 = .ok (.istore 4, 2) := by decide +kernel
theorem dX10_judge_36 : decode cX10_judge 36 = .ok (.iload 4, 2) := by decide +kernel
theorem dX10_judge_38 : decode cX10_judge 38 = .ok (.iload_n 1, 1) := by decide +kernel
theorem dX10_judge_39 : decode cX10_judge 39 = .ok (.if_icmp .ge 55, 3) := by decide +kernel
theorem dX10_judge_42 : decode cX10_judge 42 = .ok (.lload_n 2, 1) := by decide +kernel
theorem dX10_judge_43 : decode cX10_judge 43 = .ok (.iload_n 1, 1) := by decide +kernel
theorem dX10_judge_44 : decode cX10_judge 44 = .ok (.iconst 1, 1) := by decide +kernel
theorem dX10_judge_45 : decode cX10_judge 45 = .ok (.isub, 1) := by decide +kernel
theorem dX10_judge_46 : decode cX10_judge 46 = .ok (.iload 4, 2) := by decide +kernel
theorem dX10_judge_48 : decode cX10_judge 48 = .ok (.isub, 1) := by decide +kernel
theorem dX10_judge_49 : decode cX10_judge 49 = .ok (.invokestatic 186, 3) := by decide +kernel
theorem dX10_judge_52 : decode cX10_judge 52 = .ok (.ldiv, 1) := by decide +kernel
theorem dX10_judge_53 : decode cX10_judge 53 = .ok (.ldc2_w 182, 3) := by decide +kernel
theorem dX10_judge_56 : decode cX10_judge 56 = .ok (.lrem, 1) := by decide +kernel
theorem dX10_judge_57 : decode cX10_judge 57 = .ok (.l2i, 1) := by decide +kernel
theorem dX10_judge_58 : decode cX10_judge 58 = .ok (.istore 5, 2) := by decide +kernel
theorem dX10_judge_60 : decode cX10_judge 60 = .ok (.aload_n 0, 1) := by decide +kernel
theorem dX10_judge_61 : decode cX10_judge 61 = .ok (.iload 5, 2) := by decide +kernel
theorem dX10_judge_63 : decode cX10_judge 63 = .ok (.bipush 100, 2) := by decide +kernel
theorem dX10_judge_65 : decode cX10_judge 65 = .ok (.idiv, 1) := by decide +kernel
theorem dX10_judge_66 : decode cX10_judge 66 = .ok (.iload 5, 2) := by decide +kernel
theorem dX10_judge_68 : decode cX10_judge 68 = .ok (.bipush 10, 2) := by decide +kernel
theorem dX10_judge_70 : decode cX10_judge 70 = .ok (.idiv, 1) := by decide +kernel
theorem dX10_judge_71 : decode cX10_judge 71 = .ok (.bipush 10, 2) := by decide +kernel
theorem dX10_judge_73 : decode cX10_judge 73 = .ok (.irem, 1) := by decide +kernel
theorem dX10_judge_74 : decode cX10_judge 74 = .ok (.iload 5, 2) := by decide +kernel
theorem dX10_judge_76 : decode cX10_judge 76 = .ok (.bipush 10, 2) := by decide +kernel
theorem dX10_judge_78 : decode cX10_judge 78 = .ok (.irem, 1) := by decide +kernel
theorem dX10_judge_79 : decode cX10_judge 79 = .ok (.invokevirtual 192, 3) := by decide +kernel
theorem dX10_judge_82 : decode cX10_judge 82 = .ok (.ifCond .ne 6, 3) := by decide +kernel
theorem dX10_judge_85 : decode cX10_judge 85 = .ok (.iload 4, 2) := by decide +kernel
theorem dX10_judge_87 : decode cX10_judge 87 = .ok (.ireturn, 1) := by decide +kernel
theorem dX10_judge_88 : decode cX10_judge 88 = .ok (.iinc 4 1, 3) := by decide +kernel
theorem dX10_judge_91 : decode cX10_judge 91 = .ok (.goto (-55), 3) := by decide +kernel
theorem dX10_judge_94 : decode cX10_judge 94 = .ok (.bipush (-9), 2) := by decide +kernel
theorem dX10_judge_96 : decode cX10_judge 96 = .ok (.ireturn, 1) := by decide +kernel
theorem dX10_spy_0 : decode cX10_spy 0 = .ok (.iload_n 1, 1) := by decide +kernel
theorem dX10_spy_1 : decode cX10_spy 1 = .ok (.i2l, 1) := by decide +kernel
theorem dX10_spy_2 : decode cX10_spy 2 = .ok (.lconst 0, 1) := by decide +kernel
theorem dX10_spy_3 : decode cX10_spy 3 = .ok (.ldc2_w 113, 3) := by decide +kernel
theorem dX10_spy_6 : decode cX10_spy 6 = .ok (.invokestatic 52, 3) := by decide +kernel
theorem dX10_spy_9 : decode cX10_spy 9 = .ok (.ifCond .ne 5, 3) := by decide +kernel
theorem dX10_spy_12 : decode cX10_spy 12 = .ok (.iconst (-1), 1) := by decide +kernel
theorem dX10_spy_13 : decode cX10_spy 13 = .ok (.ireturn, 1) := by decide +kernel
theorem dX10_spy_14 : decode cX10_spy 14 = .ok (.iload_n 2, 1) := by decide +kernel
theorem dX10_spy_15 : decode cX10_spy 15 = .ok (.i2l, 1) := by decide +kernel
theorem dX10_spy_16 : decode cX10_spy 16 = .ok (.ldc2_w 67, 3) := by decide +kernel
theorem dX10_spy_19 : decode cX10_spy 19 = .ok (.ldc2_w 69, 3) := by decide +kernel
theorem dX10_spy_22 : decode cX10_spy 22 = .ok (.invokestatic 52, 3) := by decide +kernel
theorem dX10_spy_25 : decode cX10_spy 25 = .ok (.ifCond .eq 13, 3) := by decide +kernel
theorem dX10_spy_28 : decode cX10_spy 28 = .ok (.iload_n 3, 1) := by decide +kernel
theorem dX10_spy_29 : decode cX10_spy 29 = .ok (.i2l, 1) := by decide +kernel
theorem dX10_spy_30 : decode cX10_spy 30 = .ok (.lconst 0, 1) := by decide +kernel
theorem dX10_spy_31 : decode cX10_spy 31 = .ok (.lconst 1, 1) := by decide +kernel
theorem dX10_spy_32 : decode cX10_spy 32 = .ok (.invokestatic 52, 3) := by decide +kernel
theorem dX10_spy_35 : decode cX10_spy 35 = .ok (.ifCond .ne 6, 3) := by decide +kernel
theorem dX10_spy_38 : decode cX10_spy 38 = .ok (.bipush (-2), 2) := by decide +kernel
theorem dX10_spy_40 : decode cX10_spy 40 = .ok (.ireturn, 1) := by decide +kernel
theorem dX10_spy_41 : decode cX10_spy 41 = .ok (.aload_n 0, 1) := by decide +kernel
theorem dX10_spy_42 : decode cX10_spy 42 = .ok (.getfield 196, 3) := by decide +kernel
theorem dX10_spy_45 : decode cX10_spy 45 = .ok (.bipush 6, 2) := by decide +kernel
theorem dX10_spy_47 : decode cX10_spy 47 = .ok (.if_icmp .ne 6, 3) := by decide +kernel
theorem dX10_spy_50 : decode cX10_spy 50 = .ok (.bipush (-4), 2) := by decide +kernel
theorem dX10_spy_52 : decode cX10_spy 52 = .ok (.ireturn, 1) := by decide +kernel
theorem dX10_spy_53 : decode cX10_spy 53 = .ok (.aload_n 0, 1) := by decide +kernel
theorem dX10_spy_54 : decode cX10_spy 54 = .ok (.getfield 34, 3) := by decide +kernel
theorem dX10_spy_57 : decode cX10_spy 57 = .ok (.aload_n 0, 1) := by decide +kernel
theorem dX10_spy_58 : decode cX10_spy 58 = .ok (.getfield 196, 3) := by decide +kernel
theorem dX10_spy_61 : decode cX10_spy 61 = .ok (.iload_n 1, 1) := by decide +kernel
theorem dX10_spy_62 : decode cX10_spy 62 = .ok (.iastore, 1) := by decide +kernel
theorem dX10_spy_63 : decode cX10_spy 63 = .ok (.aload_n 0, 1) := by decide +kernel
theorem dX10_spy_64 : decode cX10_spy 64 = .ok (.getfield 37, 3) := by decide +kernel
theorem dX10_spy_67 : decode cX10_spy 67 = .ok (.aload_n 0, 1) := by decide +kernel
theorem dX10_spy_68 : decode cX10_spy 68 = .ok (.getfield 196, 3) := by decide +kernel
theorem dX10_spy_71 : decode cX10_spy 71 = .ok (.iload_n 2, 1) := by decide +kernel
theorem dX10_spy_72 : decode cX10_spy 72 = .ok (.bipush 97, 2) := by decide +kernel
theorem dX10_spy_74 : decode cX10_spy 74 = .ok (.isub, 1) := by decide +kernel
theorem dX10_spy_75 : decode cX10_spy 75 = .ok (.iastore, 1) := by decide +kernel
theorem dX10_spy_76 : decode cX10_spy 76 = .ok (.aload_n 0, 1) := by decide +kernel
theorem dX10_spy_77 : decode cX10_spy 77 = .ok (.getfield 40, 3) := by decide +kernel
theorem dX10_spy_80 : decode cX10_spy 80 = .ok (.aload_n 0, 1) := by decide +kernel
theorem dX10_spy_81 : decode cX10_spy 81 = .ok (.getfield 196, 3) := by decide +kernel
theorem dX10_spy_84 : decode cX10_spy 84 = .ok (.iload_n 3, 1) := by decide +kernel
theorem dX10_spy_85 : decode cX10_spy 85 = .ok (.iastore, 1) := by decide +kernel
theorem dX10_spy_86 : decode cX10_spy 86 = .ok (.aload_n 0, 1) := by decide +kernel
theorem dX10_spy_87 : decode cX10_spy 87 = .ok (.dup, 1) := by decide +kernel
theorem dX10_spy_88 : decode cX10_spy 88 = .ok (.getfield 196, 3) := by decide +kernel
theorem dX10_spy_91 : decode cX10_spy 91 = .ok (.iconst 1, 1) := by decide +kernel
theorem dX10_spy_92 : decode cX10_spy 92 = .ok (.iadd, 1) := by decide +kernel
theorem dX10_spy_93 : decode cX10_spy 93 = .ok (.putfield 196, 3) := by decide +kernel
theorem dX10_spy_96 : decode cX10_spy 96 = .ok (.aload_n 0, 1) := by decide +kernel
theorem dX10_spy_97 : decode cX10_spy 97 = .ok (.getfield 196, 3) := by decide +kernel
theorem dX10_spy_100 : decode cX10_spy 100 = .ok (.ireturn, 1) := by decide +kernel
theorem dX10_unspy_0 : decode cX10_unspy 0 = .ok (.aload_n 0, 1) := by decide +kernel
theorem dX10_unspy_1 : decode cX10_unspy 1 = .ok (.getfield 196, 3) := by decide +kernel
theorem dX10_unspy_4 : decode cX10_unspy 4 = .ok (.istore_n 1, 1) := by decide +kernel
theorem dX10_unspy_5 : decode cX10_unspy 5 = .ok (.aload_n 0, 1) := by decide +kernel
theorem dX10_unspy_6 : decode cX10_unspy 6 = .ok (.iconst 0, 1) := by decide +kernel
theorem dX10_unspy_7 : decode cX10_unspy 7 = .ok (.putfield 196, 3) := by decide +kernel
theorem dX10_unspy_10 : decode cX10_unspy 10 = .ok (.iload_n 1, 1) := by decide +kernel
theorem dX10_unspy_11 : decode cX10_unspy 11 = .ok (.ireturn, 1) := by decide +kernel
theorem dX10_mayBe_0 : decode cX10_mayBe 0 = .ok (.iconst 1, 1) := by decide +kernel
theorem dX10_mayBe_1 : decode cX10_mayBe 1 = .ok (.istore_n 1, 1) := by decide +kernel
theorem dX10_mayBe_2 : decode cX10_mayBe 2 = .ok (.iconst 0, 1) := by decide +kernel
theorem dX10_mayBe_3 : decode cX10_mayBe 3 = .ok (.istore_n 2, 1) := by decide +kernel
theorem dX10_mayBe_4 : decode cX10_mayBe 4 = .ok (.iload_n 2, 1) := by decide +kernel
theorem dX10_mayBe_5 : decode cX10_mayBe 5 = .ok (.aload_n 0, 1) := by decide +kernel
theorem dX10_mayBe_6 : decode cX10_mayBe 6 = .ok (.getfield 196, 3) := by decide +kernel
theorem dX10_mayBe_9 : decode cX10_mayBe 9 = .ok (.if_icmp .ge 65, 3) := by decide +kernel
theorem dX10_mayBe_12 : decode cX10_mayBe 12 = .ok (.iload_n 1, 1) := by decide +kernel
theorem dX10_mayBe_13 : decode cX10_mayBe 13 = .ok (.ifCond .eq 53, 3) := by decide +kernel
theorem dX10_mayBe_16 : decode cX10_mayBe 16 = .ok (.aload_n 0, 1) := by decide +kernel
theorem dX10_mayBe_17 : decode cX10_mayBe 17 = .ok (.iconst 1, 1) := by decide +kernel
theorem dX10_mayBe_18 : decode cX10_mayBe 18 = .ok (.bipush 63, 2) := by decide +kernel
theorem dX10_mayBe_20 : decode cX10_mayBe 20 = .ok (.aload_n 0, 1) := by decide +kernel
theorem dX10_mayBe_21 : decode cX10_mayBe 21 = .ok (.getfield 34, 3) := by decide +kernel
theorem dX10_mayBe_24 : decode cX10_mayBe 24 = .ok (.iload_n 2, 1) := by decide +kernel
theorem dX10_mayBe_25 : decode cX10_mayBe 25 = .ok (.iaload, 1) := by decide +kernel
theorem dX10_mayBe_26 : decode cX10_mayBe 26 = .ok (.iconst 0, 1) := by decide +kernel
theorem dX10_mayBe_27 : decode cX10_mayBe 27 = .ok (.invokevirtual 119, 3) := by decide +kernel
theorem dX10_mayBe_30 : decode cX10_mayBe 30 = .ok (.aload_n 0, 1) := by decide +kernel
theorem dX10_mayBe_31 : decode cX10_mayBe 31 = .ok (.getfield 37, 3) := by decide +kernel
theorem dX10_mayBe_34 : decode cX10_mayBe 34 = .ok (.iload_n 2, 1) := by decide +kernel
theorem dX10_mayBe_35 : decode cX10_mayBe 35 = .ok (.iaload, 1) := by decide +kernel
theorem dX10_mayBe_36 : decode cX10_mayBe 36 = .ok (.if_icmp .ne 7, 3) := by decide +kernel
theorem dX10_mayBe_39 : decode cX10_mayBe 39 = .ok (.iconst 1, 1) := by decide +kernel
theorem dX10_mayBe_40 : decode cX10_mayBe 40 = .ok (.goto 4, 3) := by decide +kernel
theorem dX10_mayBe_43 : decode cX10_mayBe 43 = .ok (.iconst 0, 1) := by decide +kernel
theorem dX10_mayBe_44 : decode cX10_mayBe 44 = .ok (.aload_n 0, 1) := by decide +kernel
theorem dX10_mayBe_45 : decode cX10_mayBe 45 = .ok (.getfield 40, 3) := by decide +kernel
theorem dX10_mayBe_48 : decode cX10_mayBe 48 = .ok (.iload_n 2, 1) := by decide +kernel
theorem dX10_mayBe_49 : decode cX10_mayBe 49 = .ok (.iaload, 1) := by decide +kernel
theorem dX10_mayBe_50 : decode cX10_mayBe 50 = .ok (.iconst 1, 1) := by decide +kernel
theorem dX10_mayBe_51 : decode cX10_mayBe 51 = .ok (.if_icmp .ne 7, 3) := by decide +kernel
theorem dX10_mayBe_54 : decode cX10_mayBe 54 = .ok (.iconst 1, 1) := by decide +kernel
theorem dX10_mayBe_55 : decode cX10_mayBe 55 = .ok (.goto 4, 3) := by decide +kernel
theorem dX10_mayBe_58 : decode cX10_mayBe 58 = .ok (.iconst 0, 1) := by decide +kernel
theorem dX10_mayBe_59 : decode cX10_mayBe 59 = .ok (.if_icmp .ne 7, 3) := by decide +kernel
theorem dX10_mayBe_62 : decode cX10_mayBe 62 = .ok (.iconst 1, 1) := by decide +kernel
theorem dX10_mayBe_63 : decode cX10_mayBe 63 = .ok (.goto 4, 3) := by decide +kernel
theorem dX10_mayBe_66 : decode cX10_mayBe 66 = .ok (.iconst 0, 1) := by decide +kernel
theorem dX10_mayBe_67 : decode cX10_mayBe 67 = .ok (.istore_n 1, 1) := by decide +kernel
theorem dX10_mayBe_68 : decode cX10_mayBe 68 = .ok (.iinc 2 1, 3) := by decide +kernel
theorem dX10_mayBe_71 : decode cX10_mayBe 71 = .ok (.goto (-67), 3) := by decide +kernel
theorem dX10_mayBe_74 : decode cX10_mayBe 74 = .ok (.iload_n 1, 1) := by decide +kernel
theorem dX10_mayBe_75 : decode cX10_mayBe 75 = .ok (.ireturn, 1) := by decide +kernel
theorem dX10_gaps_0 : decode cX10_gaps 0 = .ok (.iload_n 1, 1) := by decide +kernel
theorem dX10_gaps_1 : decode cX10_gaps 1 = .ok (.i2l, 1) := by decide +kernel
theorem dX10_gaps_2 : decode cX10_gaps 2 = .ok (.lconst 0, 1) := by decide +kernel
theorem dX10_gaps_3 : decode cX10_gaps 3 = .ok (.lconst 1, 1) := by decide +kernel
theorem dX10_gaps_4 : decode cX10_gaps 4 = .ok (.invokestatic 52, 3) := by decide +kernel
theorem dX10_gaps_7 : decode cX10_gaps 7 = .ok (.ifCond .ne 6, 3) := by decide +kernel
theorem dX10_gaps_10 : decode cX10_gaps 10 = .ok (.bipush (-2), 2) := by decide +kernel
theorem dX10_gaps_12 : decode cX10_gaps 12 = .ok (.ireturn, 1) := by decide +kernel
theorem dX10_gaps_13 : decode cX10_gaps 13 = .ok (.iconst 0, 1) := by decide +kernel
theorem dX10_gaps_14 : decode cX10_gaps 14 = .ok (.istore_n 2, 1) := by decide +kernel
theorem dX10_gaps_15 : decode cX10_gaps 15 = .ok (.bipush (-9), 2) := by decide +kernel
theorem dX10_gaps_17 : decode cX10_gaps 17 = .ok (.istore_n 3, 1) := by decide +kernel
theorem dX10_gaps_18 : decode cX10_gaps 18 = .ok (.iconst 0, 1) := by decide +kernel
theorem dX10_gaps_19 : decode cX10_gaps 19 = .ok (.istore 4, 2) := by decide +kernel
theorem dX10_gaps_21 : decode cX10_gaps 21 = .ok (.iload 4, 2) := by decide +kernel
theorem dX10_gaps_23 : decode cX10_gaps 23 = .ok (.aload_n 0, 1) := by decide +kernel
theorem dX10_gaps_24 : decode cX10_gaps 24 = .ok (.invokevirtual 164, 3) := by decide +kernel
theorem dX10_gaps_27 : decode cX10_gaps 27 = .ok (.if_icmp .ge 42, 3) := by decide +kernel
theorem dX10_gaps_30 : decode cX10_gaps 30 = .ok (.aload_n 0, 1) := by decide +kernel
theorem dX10_gaps_31 : decode cX10_gaps 31 = .ok (.iload 4, 2) := by decide +kernel
theorem dX10_gaps_33 : decode cX10_gaps 33 = .ok (.invokevirtual 167, 3) := by decide +kernel
theorem dX10_gaps_36 : decode cX10_gaps 36 = .ok (.ifCond .eq 27, 3) := by decide +kernel
theorem dX10_gaps_39 : decode cX10_gaps 39 = .ok (.aload_n 0, 1) := by decide +kernel
theorem dX10_gaps_40 : decode cX10_gaps 40 = .ok (.invokevirtual 199, 3) := by decide +kernel
theorem dX10_gaps_43 : decode cX10_gaps 43 = .ok (.ifCond .eq 20, 3) := by decide +kernel
theorem dX10_gaps_46 : decode cX10_gaps 46 = .ok (.iload_n 2, 1) := by decide +kernel
theorem dX10_gaps_47 : decode cX10_gaps 47 = .ok (.ifCond .ne 11, 3) := by decide +kernel
theorem dX10_gaps_50 : decode cX10_gaps 50 = .ok (.aload_n 0, 1) := by decide +kernel
theorem dX10_gaps_51 : decode cX10_gaps 51 = .ok (.iconst 1, 1) := by decide +kernel
theorem dX10_gaps_52 : decode cX10_gaps 52 = .ok (.invokevirtual 173, 3) := by decide +kernel
theorem dX10_gaps_55 : decode cX10_gaps 55 = .ok (.goto 4, 3) := by decide +kernel
theorem dX10_gaps_58 : decode cX10_gaps 58 = .ok (.iload_n 3, 1) := by decide +kernel
theorem dX10_gaps_59 : decode cX10_gaps 59 = .ok (.istore_n 3, 1) := by decide +kernel
theorem dX10_gaps_60 : decode cX10_gaps 60 = .ok (.iinc 2 1, 3) := by decide +kernel
theorem dX10_gaps_63 : decode cX10_gaps 63 = .ok (.iinc 4 1, 3) := by decide +kernel
theorem dX10_gaps_66 : decode cX10_gaps 66 = .ok (.goto (-45), 3) := by decide +kernel
theorem dX10_gaps_69 : decode cX10_gaps 69 = .ok (.iload_n 1, 1) := by decide +kernel
theorem dX10_gaps_70 : decode cX10_gaps 70 = .ok (.ifCond .ne 7, 3) := by decide +kernel
theorem dX10_gaps_73 : decode cX10_gaps 73 = .ok (.iload_n 2, 1) := by decide +kernel
theorem dX10_gaps_74 : decode cX10_gaps 74 = .ok (.goto 4, 3) := by decide +kernel
theorem dX10_gaps_77 : decode cX10_gaps 77 = .ok (.iload_n 3, 1) := by decide +kernel
theorem dX10_gaps_78 : decode cX10_gaps 78 = .ok (.ireturn, 1) := by decide +kernel
theorem dX10_factorial_0 : decode cX10_factorial 0 = .ok (.iconst 1, 1) := by decide +kernel
theorem dX10_factorial_1 : decode cX10_factorial 1 = .ok (.istore_n 1, 1) := by decide +kernel
theorem dX10_factorial_2 : decode cX10_factorial 2 = .ok (.iconst 2, 1) := by decide +kernel
theorem dX10_factorial_3 : decode cX10_factorial 3 = .ok (.istore_n 2, 1) := by decide +kernel
theorem dX10_factorial_4 : decode cX10_factorial 4 = .ok (.iload_n 2, 1) := by decide +kernel
theorem dX10_factorial_5 : decode cX10_factorial 5 = .ok (.iload_n 0, 1) := by decide +kernel
theorem dX10_factorial_6 : decode cX10_factorial 6 = .ok (.if_icmp .gt 13, 3) := by decide +kernel
theorem dX10_factorial_9 : decode cX10_factorial 9 = .ok (.iload_n 1, 1) := by decide +kernel
theorem dX10_factorial_10 : decode cX10_factorial 10 = .ok (.iload_n 2, 1) := by decide +kernel
theorem dX10_factorial_11 : decode cX10_factorial 11 = .ok (.imul, 1) := by decide +kernel
theorem dX10_factorial_12 : decode cX10_factorial 12 = .ok (.istore_n 1, 1) := by decide +kernel
theorem dX10_factorial_13 : decode cX10_factorial 13 = .ok (.iinc 2 1, 3) := by decide +kernel
theorem dX10_factorial_16 : decode cX10_factorial 16 = .ok (.goto (-12), 3) := by decide +kernel
theorem dX10_factorial_19 : decode cX10_factorial 19 = .ok (.iload_n 1, 1) := by decide +kernel
theorem dX10_factorial_20 : decode cX10_factorial 20 = .ok (.ireturn, 1) := by decide +kernel
theorem dX10_common_0 : decode cX10_common 0 = .ok (.iload_n 0, 1) := by decide +kernel
theorem dX10_common_1 : decode cX10_common 1 = .ok (.ifCond .ge 8, 3) := by decide +kernel
theorem dX10_common_4 : decode cX10_common 4 = .ok (.iload_n 0, 1) := by decide +kernel
theorem dX10_common_5 : decode cX10_common 5 = .ok (.ineg, 1) := by decide +kernel
theorem dX10_common_6 : decode cX10_common 6 = .ok (.goto 4, 3) := by decide +kernel
theorem dX10_common_9 : decode cX10_common 9 = .ok (.iload_n 0, 1) := by decide +kernel
theorem dX10_common_10 : decode cX10_common 10 = .ok (.istore_n 2, 1) := by decide +kernel
theorem dX10_common_11 : decode cX10_common 11 = .ok (.iload_n 1, 1) := by decide +kernel
theorem dX10_common_12 : decode cX10_common 12 = .ok (.istore_n 3, 1) := by decide +kernel
theorem dX10_common_13 : decode cX10_common 13 = .ok (.iload_n 3, 1) := by decide +kernel
theorem dX10_common_14 : decode cX10_common 14 = .ok (.ifCond .eq 16, 3) := by decide +kernel
theorem dX10_common_17 : decode cX10_common 17 = .ok (.iload_n 2, 1) := by decide +kernel
theorem dX10_common_18 : decode cX10_common 18 = .ok (.iload_n 3, 1) := by decide +kernel
theorem dX10_common_19 : decode cX10_common 19 = .ok (.irem, 1) := by decide +kernel
theorem dX10_common_20 : decode cX10_common 20 = .ok (.istore 4, 2) := by decide +kernel
theorem dX10_common_22 : decode cX10_common 22 = .ok (.iload_n 3, 1) := by decide +kernel
theorem dX10_common_23 : decode cX10_common 23 = .ok (.istore_n 2, 1) := by decide +kernel
theorem dX10_common_24 : decode cX10_common 24 = .ok (.iload 4, 2) := by decide +kernel
theorem dX10_common_26 : decode cX10_common 26 = .ok (.istore_n 3, 1) := by decide +kernel
theorem dX10_common_27 : decode cX10_common 27 = .ok (.goto (-14), 3) := by decide +kernel
theorem dX10_common_30 : decode cX10_common 30 = .ok (.iload_n 2, 1) := by decide +kernel
theorem dX10_common_31 : decode cX10_common 31 = .ok (.ireturn, 1) := by decide +kernel
theorem dX10_share_0 : decode cX10_share 0 = .ok (.aload_n 0, 1) := by decide +kernel
theorem dX10_share_1 : decode cX10_share 1 = .ok (.iload_n 1, 1) := by decide +kernel
theorem dX10_share_2 : decode cX10_share 2 = .ok (.invokevirtual 126, 3) := by decide +kernel
theorem dX10_share_5 : decode cX10_share 5 = .ok (.ifCond .ne 5, 3) := by decide +kernel
theorem dX10_share_8 : decode cX10_share 8 = .ok (.iconst (-1), 1) := by decide +kernel
theorem dX10_share_9 : decode cX10_share 9 = .ok (.ireturn, 1) := by decide +kernel
theorem dX10_share_10 : decode cX10_share 10 = .ok (.iconst 0, 1) := by decide +kernel
theorem dX10_share_11 : decode cX10_share 11 = .ok (.istore_n 3, 1) := by decide +kernel
theorem dX10_share_12 : decode cX10_share 12 = .ok (.iconst 0, 1) := by decide +kernel
theorem dX10_share_13 : decode cX10_share 13 = .ok (.istore 4, 2) := by decide +kernel
theorem dX10_share_15 : decode cX10_share 15 = .ok (.iload 4, 2) := by decide +kernel
theorem dX10_share_17 : decode cX10_share 17 = .ok (.iconst 1, 1) := by decide +kernel
theorem dX10_share_18 : decode cX10_share 18 = .ok (.aload_n 0, 1) := by decide +kernel
theorem dX10_share_19 : decode cX10_share 19 = .ok (.getfield 75, 3) := by decide +kernel
theorem dX10_share_22 : decode cX10_share 22 = .ok (.ishl, 1) := by decide +kernel
theorem dX10_share_23 : decode cX10_share 23 = .ok (.if_icmp .ge 69, 3) := by decide +kernel
theorem dX10_share_26 : decode cX10_share 26 = .ok (.iload 4, 2) := by decide +kernel
theorem dX10_share_28 : decode cX10_share 28 = .ok (.iload_n 1, 1) := by decide +kernel
theorem dX10_share_29 : decode cX10_share 29 = .ok (.invokestatic 105, 3) := by decide +kernel
theorem dX10_share_32 : decode cX10_share 32 = .ok (.ifCond .ne 54, 3) := by decide +kernel
theorem dX10_share_35 : decode cX10_share 35 = .ok (.iload 4, 2) := by decide +kernel
theorem dX10_share_37 : decode cX10_share 37 = .ok (.invokestatic 203, 3) := by decide +kernel
theorem dX10_share_40 : decode cX10_share 40 = .ok (.invokestatic 206, 3) := by decide +kernel
theorem dX10_share_43 : decode cX10_share 43 = .ok (.aload_n 0, 1) := by decide +kernel
theorem dX10_share_44 : decode cX10_share 44 = .ok (.getfield 75, 3) := by decide +kernel
theorem dX10_share_47 : decode cX10_share 47 = .ok (.iconst 1, 1) := by decide +kernel
theorem dX10_share_48 : decode cX10_share 48 = .ok (.isub, 1) := by decide +kernel
theorem dX10_share_49 : decode cX10_share 49 = .ok (.iload 4, 2) := by decide +kernel
theorem dX10_share_51 : decode cX10_share 51 = .ok (.invokestatic 203, 3) := by decide +kernel
theorem dX10_share_54 : decode cX10_share 54 = .ok (.isub, 1) := by decide +kernel
theorem dX10_share_55 : decode cX10_share 55 = .ok (.invokestatic 206, 3) := by decide +kernel
theorem dX10_share_58 : decode cX10_share 58 = .ok (.imul, 1) := by decide +kernel
theorem dX10_share_59 : decode cX10_share 59 = .ok (.istore 5, 2) := by decide +kernel
theorem dX10_share_61 : decode cX10_share 61 = .ok (.iload_n 3, 1) := by decide +kernel
theorem dX10_share_62 : decode cX10_share 62 = .ok (.iload 5, 2) := by decide +kernel
theorem dX10_share_64 : decode cX10_share 64 = .ok (.aload_n 0, 1) := by decide +kernel
theorem dX10_share_65 : decode cX10_share 65 = .ok (.iconst 0, 1) := by decide +kernel
theorem dX10_share_66 : decode cX10_share 66 = .ok (.iload 4, 2) := by decide +kernel
theorem dX10_share_68 : decode cX10_share 68 = .ok (.iconst 1, 1) := by decide +kernel
theorem dX10_share_69 : decode cX10_share 69 = .ok (.iload_n 1, 1) := by decide +kernel
theorem dX10_share_70 : decode cX10_share 70 = .ok (.ishl, 1) := by decide +kernel
theorem dX10_share_71 : decode cX10_share 71 = .ok (.ior, 1) := by decide +kernel
theorem dX10_share_72 : decode cX10_share 72 = .ok (.invokevirtual 209, 3) := by decide +kernel
theorem dX10_share_75 : decode cX10_share 75 = .ok (.aload_n 0, 1) := by decide +kernel
theorem dX10_share_76 : decode cX10_share 76 = .ok (.iconst 0, 1) := by decide +kernel
theorem dX10_share_77 : decode cX10_share 77 = .ok (.iload 4, 2) := by decide +kernel
theorem dX10_share_79 : decode cX10_share 79 = .ok (.invokevirtual 209, 3) := by decide +kernel
theorem dX10_share_82 : decode cX10_share 82 = .ok (.isub, 1) := by decide +kernel
theorem dX10_share_83 : decode cX10_share 83 = .ok (.imul, 1) := by decide +kernel
theorem dX10_share_84 : decode cX10_share 84 = .ok (.iadd, 1) := by decide +kernel
theorem dX10_share_85 : decode cX10_share 85 = .ok (.istore_n 3, 1) := by decide +kernel
theorem dX10_share_86 : decode cX10_share 86 = .ok (.iinc 4 1, 3) := by decide +kernel
theorem dX10_share_89 : decode cX10_share 89 = .ok (.goto (-74), 3) := by decide +kernel
theorem dX10_share_92 : decode cX10_share 92 = .ok (.iload_n 3, 1) := by decide +kernel
theorem dX10_share_93 : decode cX10_share 93 = .ok (.aload_n 0, 1) := by decide +kernel
theorem dX10_share_94 : decode cX10_share 94 = .ok (.getfield 75, 3) := by decide +kernel
theorem dX10_share_97 : decode cX10_share 97 = .ok (.invokestatic 206, 3) := by decide +kernel
theorem dX10_share_100 : decode cX10_share 100 = .ok (.invokestatic 212, 3) := by decide +kernel
theorem dX10_share_103 : decode cX10_share 103 = .ok (.istore 4, 2) := by decide +kernel
theorem dX10_share_105 : decode cX10_share 105 = .ok (.iload_n 2, 1) := by decide +kernel
theorem dX10_share_106 : decode cX10_share 106 = .ok (.ifCond .eq 10, 3) := by decide +kernel
theorem dX10_share_109 : decode cX10_share 109 = .ok (.iload_n 3, 1) := by decide +kernel
theorem dX10_share_110 : decode cX10_share 110 = .ok (.iload 4, 2) := by decide +kernel
theorem dX10_share_112 : decode cX10_share 112 = .ok (.idiv, 1) := by decide +kernel
theorem dX10_share_113 : decode cX10_share 113 = .ok (.goto 13, 3) := by decide +kernel
theorem dX10_share_116 : decode cX10_share 116 = .ok (.aload_n 0, 1) := by decide +kernel
theorem dX10_share_117 : decode cX10_share 117 = .ok (.getfield 75, 3) := by decide +kernel
theorem dX10_share_120 : decode cX10_share 120 = .ok (.invokestatic 206, 3) := by decide +kernel
theorem dX10_share_123 : decode cX10_share 123 = .ok (.iload 4, 2) := by decide +kernel
theorem dX10_share_125 : decode cX10_share 125 = .ok (.idiv, 1) := by decide +kernel
theorem dX10_share_126 : decode cX10_share 126 = .ok (.ireturn, 1) := by decide +kernel
theorem dX10_gain_0 : decode cX10_gain 0 = .ok (.aload_n 0, 1) := by decide +kernel
theorem dX10_gain_1 : decode cX10_gain 1 = .ok (.invokevirtual 189, 3) := by decide +kernel
theorem dX10_gain_4 : decode cX10_gain 4 = .ok (.aload_n 0, 1) := by decide +kernel
theorem dX10_gain_5 : decode cX10_gain 5 = .ok (.getfield 16, 3) := by decide +kernel
theorem dX10_gain_8 : decode cX10_gain 8 = .ok (.iconst 5, 1) := by decide +kernel
theorem dX10_gain_9 : decode cX10_gain 9 = .ok (.iload_n 1, 1) := by decide +kernel
theorem dX10_gain_10 : decode cX10_gain 10 = .ok (.iadd, 1) := by decide +kernel
theorem dX10_gain_11 : decode cX10_gain 11 = .ok (.dup2, 1) := by decide +kernel
theorem dX10_gain_12 : decode cX10_gain 12 = .ok (.iaload, 1) := by decide +kernel
theorem dX10_gain_13 : decode cX10_gain 13 = .ok (.iload_n 3, 1) := by decide +kernel
theorem dX10_gain_14 : decode cX10_gain 14 = .ok (.iconst 1, 1) := by decide +kernel
theorem dX10_gain_15 : decode cX10_gain 15 = .ok (.if_icmp .ne 16, 3) := by decide +kernel
theorem dX10_gain_18 : decode cX10_gain 18 = .ok (.aload_n 0, 1) := by decide +kernel
theorem dX10_gain_19 : decode cX10_gain 19 = .ok (.iconst 1, 1) := by decide +kernel
theorem dX10_gain_20 : decode cX10_gain 20 = .ok (.iload_n 1, 1) := by decide +kernel
theorem dX10_gain_21 : decode cX10_gain 21 = .ok (.invokevirtual 142, 3) := by decide +kernel
theorem dX10_gain_24 : decode cX10_gain 24 = .ok (.ifCond .eq 7, 3) := by decide +kernel
theorem dX10_gain_27 : decode cX10_gain 27 = .ok (.iconst 1, 1) := by decide +kernel
theorem dX10_gain_28 : decode cX10_gain 28 = .ok (.goto 4, 3) := by decide +kernel
theorem dX10_gain_31 : decode cX10_gain 31 = .ok (.iconst 0, 1) := by decide +kernel
theorem dX10_gain_32 : decode cX10_gain 32 = .ok (.iadd, 1) := by decide +kernel
theorem dX10_gain_33 : decode cX10_gain 33 = .ok (.iastore, 1) := by decide +kernel
theorem dX10_gain_34 : decode cX10_gain 34 = .ok (.aload_n 0, 1) := by decide +kernel
theorem dX10_gain_35 : decode cX10_gain 35 = .ok (.getfield 16, 3) := by decide +kernel
theorem dX10_gain_38 : decode cX10_gain 38 = .ok (.iconst 5, 1) := by decide +kernel
theorem dX10_gain_39 : decode cX10_gain 39 = .ok (.iload_n 2, 1) := by decide +kernel
theorem dX10_gain_40 : decode cX10_gain 40 = .ok (.iadd, 1) := by decide +kernel
theorem dX10_gain_41 : decode cX10_gain 41 = .ok (.dup2, 1) := by decide +kernel
theorem dX10_gain_42 : decode cX10_gain 42 = .ok (.iaload, 1) := by decide +kernel
theorem dX10_gain_43 : decode cX10_gain 43 = .ok (.iload 4, 2) := by decide +kernel
theorem dX10_gain_45 : decode cX10_gain 45 = .ok (.iconst 1, 1) := by decide +kernel
theorem dX10_gain_46 : decode cX10_gain 46 = .ok (.if_icmp .ne 16, 3) := by decide +kernel
theorem dX10_gain_49 : decode cX10_gain 49 = .ok (.aload_n 0, 1) := by decide +kernel
theorem dX10_gain_50 : decode cX10_gain 50 = .ok (.iconst 1, 1) := by decide +kernel
theorem dX10_gain_51 : decode cX10_gain 51 = .ok (.iload_n 2, 1) := by decide +kernel
theorem dX10_gain_52 : decode cX10_gain 52 = .ok (.invokevirtual 142, 3) := by decide +kernel
theorem dX10_gain_55 : decode cX10_gain 55 = .ok (.ifCond .eq 7, 3) := by decide +kernel
theorem dX10_gain_58 : decode cX10_gain 58 = .ok (.iconst 1, 1) := by decide +kernel
theorem dX10_gain_59 : decode cX10_gain 59 = .ok (.goto 4, 3) := by decide +kernel
theorem dX10_gain_62 : decode cX10_gain 62 = .ok (.iconst 0, 1) := by decide +kernel
theorem dX10_gain_63 : decode cX10_gain 63 = .ok (.iadd, 1) := by decide +kernel
theorem dX10_gain_64 : decode cX10_gain 64 = .ok (.iastore, 1) := by decide +kernel
theorem dX10_gain_65 : decode cX10_gain 65 = .ok (.iconst 2, 1) := by decide +kernel
theorem dX10_gain_66 : decode cX10_gain 66 = .ok (.aload_n 0, 1) := by decide +kernel
theorem dX10_gain_67 : decode cX10_gain 67 = .ok (.iconst 1, 1) := by decide +kernel
theorem dX10_gain_68 : decode cX10_gain 68 = .ok (.iload_n 1, 1) := by decide +kernel
theorem dX10_gain_69 : decode cX10_gain 69 = .ok (.iconst 0, 1) := by decide +kernel
theorem dX10_gain_70 : decode cX10_gain 70 = .ok (.invokevirtual 130, 3) := by decide +kernel
theorem dX10_gain_73 : decode cX10_gain 73 = .ok (.imul, 1) := by decide +kernel
theorem dX10_gain_74 : decode cX10_gain 74 = .ok (.aload_n 0, 1) := by decide +kernel
theorem dX10_gain_75 : decode cX10_gain 75 = .ok (.iconst 1, 1) := by decide +kernel
theorem dX10_gain_76 : decode cX10_gain 76 = .ok (.iload_n 2, 1) := by decide +kernel
theorem dX10_gain_77 : decode cX10_gain 77 = .ok (.iconst 1, 1) := by decide +kernel
theorem dX10_gain_78 : decode cX10_gain 78 = .ok (.iadd, 1) := by decide +kernel
theorem dX10_gain_79 : decode cX10_gain 79 = .ok (.iconst 0, 1) := by decide +kernel
theorem dX10_gain_80 : decode cX10_gain 80 = .ok (.invokevirtual 130, 3) := by decide +kernel
theorem dX10_gain_83 : decode cX10_gain 83 = .ok (.isub, 1) := by decide +kernel
theorem dX10_gain_84 : decode cX10_gain 84 = .ok (.iload_n 3, 1) := by decide +kernel
theorem dX10_gain_85 : decode cX10_gain 85 = .ok (.isub, 1) := by decide +kernel
theorem dX10_gain_86 : decode cX10_gain 86 = .ok (.ireturn, 1) := by decide +kernel
theorem dX10_isRest_0 : decode cX10_isRest 0 = .ok (.aload_n 0, 1) := by decide +kernel
theorem dX10_isRest_1 : decode cX10_isRest 1 = .ok (.iload_n 1, 1) := by decide +kernel
theorem dX10_isRest_2 : decode cX10_isRest 2 = .ok (.iload_n 2, 1) := by decide +kernel
theorem dX10_isRest_3 : decode cX10_isRest 3 = .ok (.iconst 1, 1) := by decide +kernel
theorem dX10_isRest_4 : decode cX10_isRest 4 = .ok (.iload_n 3, 1) := by decide +kernel
theorem dX10_isRest_5 : decode cX10_isRest 5 = .ok (.isub, 1) := by decide +kernel
theorem dX10_isRest_6 : decode cX10_isRest 6 = .ok (.iload 4, 2) := by decide +kernel
theorem dX10_isRest_8 : decode cX10_isRest 8 = .ok (.invokevirtual 215, 3) := by decide +kernel
theorem dX10_isRest_11 : decode cX10_isRest 11 = .ok (.aload_n 0, 1) := by decide +kernel
theorem dX10_isRest_12 : decode cX10_isRest 12 = .ok (.iload_n 1, 1) := by decide +kernel
theorem dX10_isRest_13 : decode cX10_isRest 13 = .ok (.iload_n 2, 1) := by decide +kernel
theorem dX10_isRest_14 : decode cX10_isRest 14 = .ok (.iload_n 3, 1) := by decide +kernel
theorem dX10_isRest_15 : decode cX10_isRest 15 = .ok (.iload 4, 2) := by decide +kernel
theorem dX10_isRest_17 : decode cX10_isRest 17 = .ok (.invokevirtual 215, 3) := by decide +kernel
theorem dX10_isRest_20 : decode cX10_isRest 20 = .ok (.if_icmp .gt 30, 3) := by decide +kernel
theorem dX10_isRest_23 : decode cX10_isRest 23 = .ok (.aload_n 0, 1) := by decide +kernel
theorem dX10_isRest_24 : decode cX10_isRest 24 = .ok (.iload_n 2, 1) := by decide +kernel
theorem dX10_isRest_25 : decode cX10_isRest 25 = .ok (.iload_n 1, 1) := by decide +kernel
theorem dX10_isRest_26 : decode cX10_isRest 26 = .ok (.iconst 1, 1) := by decide +kernel
theorem dX10_isRest_27 : decode cX10_isRest 27 = .ok (.iload 4, 2) := by decide +kernel
theorem dX10_isRest_29 : decode cX10_isRest 29 = .ok (.isub, 1) := by decide +kernel
theorem dX10_isRest_30 : decode cX10_isRest 30 = .ok (.iload_n 3, 1) := by decide +kernel
theorem dX10_isRest_31 : decode cX10_isRest 31 = .ok (.invokevirtual 215, 3) := by decide +kernel
theorem dX10_isRest_34 : decode cX10_isRest 34 = .ok (.aload_n 0, 1) := by decide +kernel
theorem dX10_isRest_35 : decode cX10_isRest 35 = .ok (.iload_n 2, 1) := by decide +kernel
theorem dX10_isRest_36 : decode cX10_isRest 36 = .ok (.iload_n 1, 1) := by decide +kernel
theorem dX10_isRest_37 : decode cX10_isRest 37 = .ok (.iload 4, 2) := by decide +kernel
theorem dX10_isRest_39 : decode cX10_isRest 39 = .ok (.iload_n 3, 1) := by decide +kernel
theorem dX10_isRest_40 : decode cX10_isRest 40 = .ok (.invokevirtual 215, 3) := by decide +kernel
theorem dX10_isRest_43 : decode cX10_isRest 43 = .ok (.if_icmp .gt 7, 3) := by decide +kernel
theorem dX10_isRest_46 : decode cX10_isRest 46 = .ok (.iconst 1, 1) := by decide +kernel
theorem dX10_isRest_47 : decode cX10_isRest 47 = .ok (.goto 4, 3) := by decide +kernel
theorem dX10_isRest_50 : decode cX10_isRest 50 = .ok (.iconst 0, 1) := by decide +kernel
theorem dX10_isRest_51 : decode cX10_isRest 51 = .ok (.ireturn, 1) := by decide +kernel
theorem dX10_rests_0 : decode cX10_rests 0 = .ok (.aload_n 0, 1) := by decide +kernel
theorem dX10_rests_1 : decode cX10_rests 1 = .ok (.iload_n 1, 1) := by decide +kernel
theorem dX10_rests_2 : decode cX10_rests 2 = .ok (.invokevirtual 133, 3) := by decide +kernel
theorem dX10_rests_5 : decode cX10_rests 5 = .ok (.ifCond .eq 11, 3) := by decide +kernel
theorem dX10_rests_8 : decode cX10_rests 8 = .ok (.aload_n 0, 1) := by decide +kernel
theorem dX10_rests_9 : decode cX10_rests 9 = .ok (.iload_n 2, 1) := by decide +kernel
theorem dX10_rests_10 : decode cX10_rests 10 = .ok (.invokevirtual 133, 3) := by decide +kernel
theorem dX10_rests_13 : decode cX10_rests 13 = .ok (.ifCond .ne 5, 3) := by decide +kernel
theorem dX10_rests_16 : decode cX10_rests 16 = .ok (.iconst (-1), 1) := by decide +kernel
theorem dX10_rests_17 : decode cX10_rests 17 = .ok (.ireturn, 1) := by decide +kernel
theorem dX10_rests_18 : decode cX10_rests 18 = .ok (.iload_n 1, 1) := by decide +kernel
theorem dX10_rests_19 : decode cX10_rests 19 = .ok (.iload_n 2, 1) := by decide +kernel
theorem dX10_rests_20 : decode cX10_rests 20 = .ok (.if_icmp .eq 13, 3) := by decide +kernel
theorem dX10_rests_23 : decode cX10_rests 23 = .ok (.iload_n 3, 1) := by decide +kernel
theorem dX10_rests_24 : decode cX10_rests 24 = .ok (.i2l, 1) := by decide +kernel
theorem dX10_rests_25 : decode cX10_rests 25 = .ok (.lconst 0, 1) := by decide +kernel
theorem dX10_rests_26 : decode cX10_rests 26 = .ok (.lconst 1, 1) := by decide +kernel
theorem dX10_rests_27 : decode cX10_rests 27 = .ok (.invokestatic 52, 3) := by decide +kernel
theorem dX10_rests_30 : decode cX10_rests 30 = .ok (.ifCond .ne 6, 3) := by decide +kernel
theorem dX10_rests_33 : decode cX10_rests 33 = .ok (.bipush (-2), 2) := by decide +kernel
theorem dX10_rests_35 : decode cX10_rests 35 = .ok (.ireturn, 1) := by decide +kernel
theorem dX10_rests_36 : decode cX10_rests 36 = .ok (.iconst 0, 1) := by decide +kernel
theorem dX10_rests_37 : decode cX10_rests 37 = .ok (.istore 4, 2) := by decide +kernel
theorem dX10_rests_39 : decode cX10_rests 39 = .ok (.bipush (-9), 2) := by decide +kernel
theorem dX10_rests_41 : decode cX10_rests 41 = .ok (.istore 5, 2) := by decide +kernel
theorem dX10_rests_43 : decode cX10_rests 43 = .ok (.iconst 0, 1) := by decide +kernel
theorem dX10_rests_44 : decode cX10_rests 44 = .ok (.istore 6, 2) := by decide +kernel
theorem dX10_rests_46 : decode cX10_rests 46 = .ok (.iload 6, 2) := by decide +kernel
theorem dX10_rests_48 : decode cX10_rests 48 = .ok (.iconst 4, 1) := by decide +kernel
theorem dX10_rests_49 : decode cX10_rests 49 = .ok (.if_icmp .ge 53, 3) := by decide +kernel
theorem dX10_rests_52 : decode cX10_rests 52 = .ok (.aload_n 0, 1) := by decide +kernel
theorem dX10_rests_53 : decode cX10_rests 53 = .ok (.iload_n 1, 1) := by decide +kernel
theorem dX10_rests_54 : decode cX10_rests 54 = .ok (.iload_n 2, 1) := by decide +kernel
theorem dX10_rests_55 : decode cX10_rests 55 = .ok (.iload 6, 2) := by decide +kernel
theorem dX10_rests_57 : decode cX10_rests 57 = .ok (.iconst 2, 1) := by decide +kernel
theorem dX10_rests_58 : decode cX10_rests 58 = .ok (.idiv, 1) := by decide +kernel
theorem dX10_rests_59 : decode cX10_rests 59 = .ok (.iload 6, 2) := by decide +kernel
theorem dX10_rests_61 : decode cX10_rests 61 = .ok (.iconst 2, 1) := by decide +kernel
theorem dX10_rests_62 : decode cX10_rests 62 = .ok (.irem, 1) := by decide +kernel
theorem dX10_rests_63 : decode cX10_rests 63 = .ok (.invokevirtual 218, 3) := by decide +kernel
theorem dX10_rests_66 : decode cX10_rests 66 = .ok (.ifCond .eq 30, 3) := by decide +kernel
theorem dX10_rests_69 : decode cX10_rests 69 = .ok (.iload 4, 2) := by decide +kernel
theorem dX10_rests_71 : decode cX10_rests 71 = .ok (.ifCond .ne 18, 3) := by decide +kernel
theorem dX10_rests_74 : decode cX10_rests 74 = .ok (.bipush 10, 2) := by decide +kernel
theorem dX10_rests_76 : decode cX10_rests 76 = .ok (.iload 6, 2) := by decide +kernel
theorem dX10_rests_78 : decode cX10_rests 78 = .ok (.iconst 2, 1) := by decide +kernel
theorem dX10_rests_79 : decode cX10_rests 79 = .ok (.idiv, 1) := by decide +kernel
theorem dX10_rests_80 : decode cX10_rests 80 = .ok (.imul, 1) := by decide +kernel
theorem dX10_rests_81 : decode cX10_rests 81 = .ok (.iload 6, 2) := by decide +kernel
theorem dX10_rests_83 : decode cX10_rests 83 = .ok (.iconst 2, 1) := by decide +kernel
theorem dX10_rests_84 : decode cX10_rests 84 = .ok (.irem, 1) := by decide +kernel
theorem dX10_rests_85 : decode cX10_rests 85 = .ok (.iadd, 1) := by decide +kernel
theorem dX10_rests_86 : decode cX10_rests 86 = .ok (.goto 5, 3) := by decide +kernel
theorem dX10_rests_89 : decode cX10_rests 89 = .ok (.iload 5, 2) := by decide +kernel
theorem dX10_rests_91 : decode cX10_rests 91 = .ok (.istore 5, 2) := by decide +kernel
theorem dX10_rests_93 : decode cX10_rests 93 = .ok (.iinc 4 1, 3) := by decide +kernel
theorem dX10_rests_96 : decode cX10_rests 96 = .ok (.iinc 6 1, 3) := by decide +kernel
theorem dX10_rests_99 : decode cX10_rests 99 = .ok (.goto (-53), 3) := by decide +kernel
theorem dX10_rests_102 : decode cX10_rests 102 = .ok (.iload_n 3, 1) := by decide +kernel
theorem dX10_rests_103 : decode cX10_rests 103 = .ok (.ifCond .ne 8, 3) := by decide +kernel
theorem dX10_rests_106 : decode cX10_rests 106 = .ok (.iload 4, 2) := by decide +kernel
theorem dX10_rests_108 : decode cX10_rests 108 = .ok (.goto 5, 3) := by decide +kernel
theorem dX10_rests_111 : decode cX10_rests 111 = .ok (.iload 5, 2) := by decide +kernel
theorem dX10_rests_113 : decode cX10_rests 113 = .ok (.ireturn, 1) := by decide +kernel
theorem dX10_drops_0 : decode cX10_drops 0 = .ok (.iload_n 1, 1) := by decide +kernel
theorem dX10_drops_1 : decode cX10_drops 1 = .ok (.i2l, 1) := by decide +kernel
theorem dX10_drops_2 : decode cX10_drops 2 = .ok (.lconst 0, 1) := by decide +kernel
theorem dX10_drops_3 : decode cX10_drops 3 = .ok (.lconst 1, 1) := by decide +kernel
theorem dX10_drops_4 : decode cX10_drops 4 = .ok (.invokestatic 52, 3) := by decide +kernel
theorem dX10_drops_7 : decode cX10_drops 7 = .ok (.ifCond .eq 15, 3) := by decide +kernel
theorem dX10_drops_10 : decode cX10_drops 10 = .ok (.iload_n 2, 1) := by decide +kernel
theorem dX10_drops_11 : decode cX10_drops 11 = .ok (.i2l, 1) := by decide +kernel
theorem dX10_drops_12 : decode cX10_drops 12 = .ok (.lconst 0, 1) := by decide +kernel
theorem dX10_drops_13 : decode cX10_drops 13 = .ok (.ldc2_w 221, 3) := by decide +kernel
theorem dX10_drops_16 : decode cX10_drops 16 = .ok (.invokestatic 52, 3) := by decide +kernel
theorem dX10_drops_19 : decode cX10_drops 19 = .ok (.ifCond .ne 6, 3) := by decide +kernel
theorem dX10_drops_22 : decode cX10_drops 22 = .ok (.bipush (-2), 2) := by decide +kernel
theorem dX10_drops_24 : decode cX10_drops 24 = .ok (.ireturn, 1) := by decide +kernel
theorem dX10_drops_25 : decode cX10_drops 25 = .ok (.iconst 0, 1) := by decide +kernel
theorem dX10_drops_26 : decode cX10_drops 26 = .ok (.istore 4, 2) := by decide +kernel
theorem dX10_drops_28 : decode cX10_drops 28 = .ok (.iconst 0, 1) := by decide +kernel
theorem dX10_drops_29 : decode cX10_drops 29 = .ok (.istore 5, 2) := by decide +kernel
theorem dX10_drops_31 : decode cX10_drops 31 = .ok (.iconst 0, 1) := by decide +kernel
theorem dX10_drops_32 : decode cX10_drops 32 = .ok (.istore 6, 2) := by decide +kernel
theorem dX10_drops_34 : decode cX10_drops 34 = .ok (.iload 6, 2) := by decide +kernel
theorem dX10_drops_36 : decode cX10_drops 36 = .ok (.iconst 1, 1) := by decide +kernel
theorem dX10_drops_37 : decode cX10_drops 37 = .ok (.aload_n 0, 1) := by decide +kernel
theorem dX10_drops_38 : decode cX10_drops 38 = .ok (.getfield 75, 3) := by decide +kernel
theorem dX10_drops_41 : decode cX10_drops 41 = .ok (.ishl, 1) := by decide +kernel
theorem dX10_drops_42 : decode cX10_drops 42 = .ok (.if_icmp .ge 84, 3) := by decide +kernel
theorem dX10_drops_45 : decode cX10_drops 45 = .ok (.iconst 1, 1) := by decide +kernel
theorem dX10_drops_46 : decode cX10_drops 46 = .ok (.istore 7, 2) := by decide +kernel
theorem dX10_drops_48 : decode cX10_drops 48 = .ok (.iconst 0, 1) := by decide +kernel
theorem dX10_drops_49 : decode cX10_drops 49 = .ok (.istore 8, 2) := by decide +kernel
theorem dX10_drops_51 : decode cX10_drops 51 = .ok (.iload 8, 2) := by decide +kernel
theorem dX10_drops_53 : decode cX10_drops 53 = .ok (.aload_n 0, 1) := by decide +kernel
end
section
theorem dX10_drops_54 : decode cX10_drops 54 = .ok (.getfield 75, 3) := by decide +kernel
theorem dX10_drops_57 : decode cX10_drops 57 = .ok (.if_icmp .ge 32, 3) := by decide +kernel
theorem dX10_drops_60 : decode cX10_drops 60 = .ok (.iload 7, 2) := by decide +kernel
theorem dX10_drops_62 : decode cX10_drops 62 = .ok (.iload 6, 2) := by decide +kernel
theorem dX10_drops_64 : decode cX10_drops 64 = .ok (.iload 8, 2) := by decide +kernel
theorem dX10_drops_66 : decode cX10_drops 66 = .ok (.invokestatic 105, 3) := by decide +kernel
theorem dX10_drops_69 : decode cX10_drops 69 = .ok (.ifCond .eq 10, 3) := by decide +kernel
theorem dX10_drops_72 : decode cX10_drops 72 = .ok (.bipush 10, 2) := by decide +kernel
theorem dX10_drops_74 : decode cX10_drops 74 = .ok (.iload_n 2, 1) := by decide +kernel
theorem dX10_drops_75 : decode cX10_drops 75 = .ok (.isub, 1) := by decide +kernel
theorem dX10_drops_76 : decode cX10_drops 76 = .ok (.goto 4, 3) := by decide +kernel
theorem dX10_drops_79 : decode cX10_drops 79 = .ok (.iload_n 2, 1) := by decide +kernel
theorem dX10_drops_80 : decode cX10_drops 80 = .ok (.imul, 1) := by decide +kernel
theorem dX10_drops_81 : decode cX10_drops 81 = .ok (.istore 7, 2) := by decide +kernel
theorem dX10_drops_83 : decode cX10_drops 83 = .ok (.iinc 8 1, 3) := by decide +kernel
theorem dX10_drops_86 : decode cX10_drops 86 = .ok (.goto (-35), 3) := by decide +kernel
theorem dX10_drops_89 : decode cX10_drops 89 = .ok (.iload 5, 2) := by decide +kernel
theorem dX10_drops_91 : decode cX10_drops 91 = .ok (.iload 7, 2) := by decide +kernel
theorem dX10_drops_93 : decode cX10_drops 93 = .ok (.iadd, 1) := by decide +kernel
theorem dX10_drops_94 : decode cX10_drops 94 = .ok (.istore 5, 2) := by decide +kernel
theorem dX10_drops_96 : decode cX10_drops 96 = .ok (.iload 4, 2) := by decide +kernel
theorem dX10_drops_98 : decode cX10_drops 98 = .ok (.aload_n 0, 1) := by decide +kernel
theorem dX10_drops_99 : decode cX10_drops 99 = .ok (.iconst 0, 1) := by decide +kernel
theorem dX10_drops_100 : decode cX10_drops 100 = .ok (.iload 6, 2) := by decide +kernel
theorem dX10_drops_102 : decode cX10_drops 102 = .ok (.iload_n 1, 1) := by decide +kernel
theorem dX10_drops_103 : decode cX10_drops 103 = .ok (.invokevirtual 161, 3) := by decide +kernel
theorem dX10_drops_106 : decode cX10_drops 106 = .ok (.bipush (-9), 2) := by decide +kernel
theorem dX10_drops_108 : decode cX10_drops 108 = .ok (.if_icmp .ne 7, 3) := by decide +kernel
theorem dX10_drops_111 : decode cX10_drops 111 = .ok (.iconst 0, 1) := by decide +kernel
theorem dX10_drops_112 : decode cX10_drops 112 = .ok (.goto 5, 3) := by decide +kernel
theorem dX10_drops_115 : decode cX10_drops 115 = .ok (.iload 7, 2) := by decide +kernel
theorem dX10_drops_117 : decode cX10_drops 117 = .ok (.iadd, 1) := by decide +kernel
theorem dX10_drops_118 : decode cX10_drops 118 = .ok (.istore 4, 2) := by decide +kernel
theorem dX10_drops_120 : decode cX10_drops 120 = .ok (.iinc 6 1, 3) := by decide +kernel
theorem dX10_drops_123 : decode cX10_drops 123 = .ok (.goto (-89), 3) := by decide +kernel
theorem dX10_drops_126 : decode cX10_drops 126 = .ok (.iload 4, 2) := by decide +kernel
theorem dX10_drops_128 : decode cX10_drops 128 = .ok (.iload 5, 2) := by decide +kernel
theorem dX10_drops_130 : decode cX10_drops 130 = .ok (.invokestatic 212, 3) := by decide +kernel
theorem dX10_drops_133 : decode cX10_drops 133 = .ok (.istore 6, 2) := by decide +kernel
theorem dX10_drops_135 : decode cX10_drops 135 = .ok (.iload_n 3, 1) := by decide +kernel
theorem dX10_drops_136 : decode cX10_drops 136 = .ok (.ifCond .eq 11, 3) := by decide +kernel
theorem dX10_drops_139 : decode cX10_drops 139 = .ok (.iload 4, 2) := by decide +kernel
theorem dX10_drops_141 : decode cX10_drops 141 = .ok (.iload 6, 2) := by decide +kernel
theorem dX10_drops_143 : decode cX10_drops 143 = .ok (.idiv, 1) := by decide +kernel
theorem dX10_drops_144 : decode cX10_drops 144 = .ok (.goto 8, 3) := by decide +kernel
theorem dX10_drops_147 : decode cX10_drops 147 = .ok (.iload 5, 2) := by decide +kernel
theorem dX10_drops_149 : decode cX10_drops 149 = .ok (.iload 6, 2) := by decide +kernel
theorem dX10_drops_151 : decode cX10_drops 151 = .ok (.idiv, 1) := by decide +kernel
theorem dX10_drops_152 : decode cX10_drops 152 = .ok (.ireturn, 1) := by decide +kernel
theorem dX10_seed_0 : decode cX10_seed 0 = .ok (.aload_n 0, 1) := by decide +kernel
theorem dX10_seed_1 : decode cX10_seed 1 = .ok (.getfield 223, 3) := by decide +kernel
theorem dX10_seed_4 : decode cX10_seed 4 = .ok (.lstore_n 3, 1) := by decide +kernel
theorem dX10_seed_5 : decode cX10_seed 5 = .ok (.aload_n 0, 1) := by decide +kernel
theorem dX10_seed_6 : decode cX10_seed 6 = .ok (.lload_n 1, 1) := by decide +kernel
theorem dX10_seed_7 : decode cX10_seed 7 = .ok (.putfield 223, 3) := by decide +kernel
theorem dX10_seed_10 : decode cX10_seed 10 = .ok (.lload_n 3, 1) := by decide +kernel
theorem dX10_seed_11 : decode cX10_seed 11 = .ok (.lreturn, 1) := by decide +kernel
theorem dX10_years_0 : decode cX10_years 0 = .ok (.iload_n 1, 1) := by decide +kernel
theorem dX10_years_1 : decode cX10_years 1 = .ok (.i2l, 1) := by decide +kernel
theorem dX10_years_2 : decode cX10_years 2 = .ok (.lconst 1, 1) := by decide +kernel
theorem dX10_years_3 : decode cX10_years 3 = .ok (.ldc2_w 227, 3) := by decide +kernel
theorem dX10_years_6 : decode cX10_years 6 = .ok (.invokestatic 52, 3) := by decide +kernel
theorem dX10_years_9 : decode cX10_years 9 = .ok (.ifCond .ne 6, 3) := by decide +kernel
theorem dX10_years_12 : decode cX10_years 12 = .ok (.bipush (-2), 2) := by decide +kernel
theorem dX10_years_14 : decode cX10_years 14 = .ok (.ireturn, 1) := by decide +kernel
theorem dX10_years_15 : decode cX10_years 15 = .ok (.aload_n 0, 1) := by decide +kernel
theorem dX10_years_16 : decode cX10_years 16 = .ok (.invokevirtual 189, 3) := by decide +kernel
theorem dX10_years_19 : decode cX10_years 19 = .ok (.iconst 0, 1) := by decide +kernel
theorem dX10_years_20 : decode cX10_years 20 = .ok (.istore_n 2, 1) := by decide +kernel
theorem dX10_years_21 : decode cX10_years 21 = .ok (.iconst 0, 1) := by decide +kernel
theorem dX10_years_22 : decode cX10_years 22 = .ok (.istore_n 3, 1) := by decide +kernel
theorem dX10_years_23 : decode cX10_years 23 = .ok (.iload_n 3, 1) := by decide +kernel
theorem dX10_years_24 : decode cX10_years 24 = .ok (.iload_n 1, 1) := by decide +kernel
theorem dX10_years_25 : decode cX10_years 25 = .ok (.if_icmp .ge 107, 3) := by decide +kernel
theorem dX10_years_28 : decode cX10_years 28 = .ok (.aload_n 0, 1) := by decide +kernel
theorem dX10_years_29 : decode cX10_years 29 = .ok (.aload_n 0, 1) := by decide +kernel
theorem dX10_years_30 : decode cX10_years 30 = .ok (.getfield 223, 3) := by decide +kernel
theorem dX10_years_33 : decode cX10_years 33 = .ok (.ldc2_w 229, 3) := by decide +kernel
theorem dX10_years_36 : decode cX10_years 36 = .ok (.lmul, 1) := by decide +kernel
theorem dX10_years_37 : decode cX10_years 37 = .ok (.ldc2_w 231, 3) := by decide +kernel
theorem dX10_years_40 : decode cX10_years 40 = .ok (.ladd, 1) := by decide +kernel
theorem dX10_years_41 : decode cX10_years 41 = .ok (.putfield 223, 3) := by decide +kernel
theorem dX10_years_44 : decode cX10_years 44 = .ok (.aload_n 0, 1) := by decide +kernel
theorem dX10_years_45 : decode cX10_years 45 = .ok (.getfield 223, 3) := by decide +kernel
theorem dX10_years_48 : decode cX10_years 48 = .ok (.bipush 33, 2) := by decide +kernel
theorem dX10_years_50 : decode cX10_years 50 = .ok (.lushr, 1) := by decide +kernel
theorem dX10_years_51 : decode cX10_years 51 = .ok (.ldc2_w 233, 3) := by decide +kernel
theorem dX10_years_54 : decode cX10_years 54 = .ok (.lrem, 1) := by decide +kernel
theorem dX10_years_55 : decode cX10_years 55 = .ok (.l2i, 1) := by decide +kernel
theorem dX10_years_56 : decode cX10_years 56 = .ok (.istore 4, 2) := by decide +kernel
theorem dX10_years_58 : decode cX10_years 58 = .ok (.iload 4, 2) := by decide +kernel
theorem dX10_years_60 : decode cX10_years 60 = .ok (.bipush 13, 2) := by decide +kernel
theorem dX10_years_62 : decode cX10_years 62 = .ok (.if_icmp .le 11, 3) := by decide +kernel
theorem dX10_years_65 : decode cX10_years 65 = .ok (.aload_n 0, 1) := by decide +kernel
theorem dX10_years_66 : decode cX10_years 66 = .ok (.iconst 1, 1) := by decide +kernel
theorem dX10_years_67 : decode cX10_years 67 = .ok (.invokevirtual 157, 3) := by decide +kernel
theorem dX10_years_70 : decode cX10_years 70 = .ok (.goto 48, 3) := by decide +kernel
theorem dX10_years_73 : decode cX10_years 73 = .ok (.iload 4, 2) := by decide +kernel
theorem dX10_years_75 : decode cX10_years 75 = .ok (.bipush 9, 2) := by decide +kernel
theorem dX10_years_77 : decode cX10_years 77 = .ok (.if_icmp .le 12, 3) := by decide +kernel
theorem dX10_years_80 : decode cX10_years 80 = .ok (.aload_n 0, 1) := by decide +kernel
theorem dX10_years_81 : decode cX10_years 81 = .ok (.iconst 1, 1) := by decide +kernel
theorem dX10_years_82 : decode cX10_years 82 = .ok (.invokevirtual 151, 3) := by decide +kernel
theorem dX10_years_85 : decode cX10_years 85 = .ok (.pop, 1) := by decide +kernel
theorem dX10_years_86 : decode cX10_years 86 = .ok (.goto 32, 3) := by decide +kernel
theorem dX10_years_89 : decode cX10_years 89 = .ok (.iload 4, 2) := by decide +kernel
theorem dX10_years_91 : decode cX10_years 91 = .ok (.iconst 4, 1) := by decide +kernel
theorem dX10_years_92 : decode cX10_years 92 = .ok (.if_icmp .le 17, 3) := by decide +kernel
theorem dX10_years_95 : decode cX10_years 95 = .ok (.aload_n 0, 1) := by decide +kernel
theorem dX10_years_96 : decode cX10_years 96 = .ok (.iconst 2, 1) := by decide +kernel
theorem dX10_years_97 : decode cX10_years 97 = .ok (.iconst 0, 1) := by decide +kernel
theorem dX10_years_98 : decode cX10_years 98 = .ok (.iload 4, 2) := by decide +kernel
theorem dX10_years_100 : decode cX10_years 100 = .ok (.iconst 5, 1) := by decide +kernel
theorem dX10_years_101 : decode cX10_years 101 = .ok (.isub, 1) := by decide +kernel
theorem dX10_years_102 : decode cX10_years 102 = .ok (.invokevirtual 192, 3) := by decide +kernel
theorem dX10_years_105 : decode cX10_years 105 = .ok (.pop, 1) := by decide +kernel
theorem dX10_years_106 : decode cX10_years 106 = .ok (.goto 12, 3) := by decide +kernel
theorem dX10_years_109 : decode cX10_years 109 = .ok (.aload_n 0, 1) := by decide +kernel
theorem dX10_years_110 : decode cX10_years 110 = .ok (.iconst 1, 1) := by decide +kernel
theorem dX10_years_111 : decode cX10_years 111 = .ok (.iconst 0, 1) := by decide +kernel
theorem dX10_years_112 : decode cX10_years 112 = .ok (.iload 4, 2) := by decide +kernel
theorem dX10_years_114 : decode cX10_years 114 = .ok (.invokevirtual 192, 3) := by decide +kernel
theorem dX10_years_117 : decode cX10_years 117 = .ok (.pop, 1) := by decide +kernel
theorem dX10_years_118 : decode cX10_years 118 = .ok (.iload_n 2, 1) := by decide +kernel
theorem dX10_years_119 : decode cX10_years 119 = .ok (.aload_n 0, 1) := by decide +kernel
theorem dX10_years_120 : decode cX10_years 120 = .ok (.iconst 1, 1) := by decide +kernel
theorem dX10_years_121 : decode cX10_years 121 = .ok (.invokevirtual 179, 3) := by decide +kernel
theorem dX10_years_124 : decode cX10_years 124 = .ok (.iadd, 1) := by decide +kernel
theorem dX10_years_125 : decode cX10_years 125 = .ok (.istore_n 2, 1) := by decide +kernel
theorem dX10_years_126 : decode cX10_years 126 = .ok (.iinc 3 1, 3) := by decide +kernel
theorem dX10_years_129 : decode cX10_years 129 = .ok (.goto (-106), 3) := by decide +kernel
theorem dX10_years_132 : decode cX10_years 132 = .ok (.iload_n 2, 1) := by decide +kernel
theorem dX10_years_133 : decode cX10_years 133 = .ok (.ireturn, 1) := by decide +kernel
theorem dX10_keep_0 : decode cX10_keep 0 = .ok (.iload_n 1, 1) := by decide +kernel
theorem dX10_keep_1 : decode cX10_keep 1 = .ok (.i2l, 1) := by decide +kernel
theorem dX10_keep_2 : decode cX10_keep 2 = .ok (.lconst 0, 1) := by decide +kernel
theorem dX10_keep_3 : decode cX10_keep 3 = .ok (.lconst 1, 1) := by decide +kernel
theorem dX10_keep_4 : decode cX10_keep 4 = .ok (.invokestatic 52, 3) := by decide +kernel
theorem dX10_keep_7 : decode cX10_keep 7 = .ok (.ifCond .ne 5, 3) := by decide +kernel
theorem dX10_keep_10 : decode cX10_keep 10 = .ok (.iconst (-1), 1) := by decide +kernel
theorem dX10_keep_11 : decode cX10_keep 11 = .ok (.ireturn, 1) := by decide +kernel
theorem dX10_keep_12 : decode cX10_keep 12 = .ok (.aload_n 0, 1) := by decide +kernel
theorem dX10_keep_13 : decode cX10_keep 13 = .ok (.getfield 43, 3) := by decide +kernel
theorem dX10_keep_16 : decode cX10_keep 16 = .ok (.iload_n 1, 1) := by decide +kernel
theorem dX10_keep_17 : decode cX10_keep 17 = .ok (.iconst 1, 1) := by decide +kernel
theorem dX10_keep_18 : decode cX10_keep 18 = .ok (.bastore, 1) := by decide +kernel
theorem dX10_keep_19 : decode cX10_keep 19 = .ok (.iconst 0, 1) := by decide +kernel
theorem dX10_keep_20 : decode cX10_keep 20 = .ok (.istore_n 2, 1) := by decide +kernel
theorem dX10_keep_21 : decode cX10_keep 21 = .ok (.iload_n 2, 1) := by decide +kernel
theorem dX10_keep_22 : decode cX10_keep 22 = .ok (.iconst 5, 1) := by decide +kernel
theorem dX10_keep_23 : decode cX10_keep 23 = .ok (.if_icmp .ge 25, 3) := by decide +kernel
theorem dX10_keep_26 : decode cX10_keep 26 = .ok (.aload_n 0, 1) := by decide +kernel
theorem dX10_keep_27 : decode cX10_keep 27 = .ok (.getfield 47, 3) := by decide +kernel
theorem dX10_keep_30 : decode cX10_keep 30 = .ok (.iconst 5, 1) := by decide +kernel
theorem dX10_keep_31 : decode cX10_keep 31 = .ok (.iload_n 1, 1) := by decide +kernel
theorem dX10_keep_32 : decode cX10_keep 32 = .ok (.imul, 1) := by decide +kernel
theorem dX10_keep_33 : decode cX10_keep 33 = .ok (.iload_n 2, 1) := by decide +kernel
theorem dX10_keep_34 : decode cX10_keep 34 = .ok (.iadd, 1) := by decide +kernel
theorem dX10_keep_35 : decode cX10_keep 35 = .ok (.aload_n 0, 1) := by decide +kernel
theorem dX10_keep_36 : decode cX10_keep 36 = .ok (.getfield 16, 3) := by decide +kernel
theorem dX10_keep_39 : decode cX10_keep 39 = .ok (.iload_n 2, 1) := by decide +kernel
theorem dX10_keep_40 : decode cX10_keep 40 = .ok (.iaload, 1) := by decide +kernel
theorem dX10_keep_41 : decode cX10_keep 41 = .ok (.iastore, 1) := by decide +kernel
theorem dX10_keep_42 : decode cX10_keep 42 = .ok (.iinc 2 1, 3) := by decide +kernel
theorem dX10_keep_45 : decode cX10_keep 45 = .ok (.goto (-24), 3) := by decide +kernel
theorem dX10_keep_48 : decode cX10_keep 48 = .ok (.aload_n 0, 1) := by decide +kernel
theorem dX10_keep_49 : decode cX10_keep 49 = .ok (.iconst 0, 1) := by decide +kernel
theorem dX10_keep_50 : decode cX10_keep 50 = .ok (.invokevirtual 154, 3) := by decide +kernel
theorem dX10_keep_53 : decode cX10_keep 53 = .ok (.ireturn, 1) := by decide +kernel
theorem dX10_again_0 : decode cX10_again 0 = .ok (.iload_n 1, 1) := by decide +kernel
theorem dX10_again_1 : decode cX10_again 1 = .ok (.i2l, 1) := by decide +kernel
theorem dX10_again_2 : decode cX10_again 2 = .ok (.lconst 0, 1) := by decide +kernel
theorem dX10_again_3 : decode cX10_again 3 = .ok (.lconst 1, 1) := by decide +kernel
theorem dX10_again_4 : decode cX10_again 4 = .ok (.invokestatic 52, 3) := by decide +kernel
theorem dX10_again_7 : decode cX10_again 7 = .ok (.ifCond .ne 5, 3) := by decide +kernel
theorem dX10_again_10 : decode cX10_again 10 = .ok (.iconst (-1), 1) := by decide +kernel
theorem dX10_again_11 : decode cX10_again 11 = .ok (.ireturn, 1) := by decide +kernel
theorem dX10_again_12 : decode cX10_again 12 = .ok (.aload_n 0, 1) := by decide +kernel
theorem dX10_again_13 : decode cX10_again 13 = .ok (.getfield 43, 3) := by decide +kernel
theorem dX10_again_16 : decode cX10_again 16 = .ok (.iload_n 1, 1) := by decide +kernel
theorem dX10_again_17 : decode cX10_again 17 = .ok (.baload, 1) := by decide +kernel
theorem dX10_again_18 : decode cX10_again 18 = .ok (.ifCond .ne 6, 3) := by decide +kernel
theorem dX10_again_21 : decode cX10_again 21 = .ok (.bipush (-3), 2) := by decide +kernel
theorem dX10_again_23 : decode cX10_again 23 = .ok (.ireturn, 1) := by decide +kernel
theorem dX10_again_24 : decode cX10_again 24 = .ok (.iconst 0, 1) := by decide +kernel
theorem dX10_again_25 : decode cX10_again 25 = .ok (.istore_n 2, 1) := by decide +kernel
theorem dX10_again_26 : decode cX10_again 26 = .ok (.iload_n 2, 1) := by decide +kernel
theorem dX10_again_27 : decode cX10_again 27 = .ok (.iconst 5, 1) := by decide +kernel
theorem dX10_again_28 : decode cX10_again 28 = .ok (.if_icmp .ge 25, 3) := by decide +kernel
theorem dX10_again_31 : decode cX10_again 31 = .ok (.aload_n 0, 1) := by decide +kernel
theorem dX10_again_32 : decode cX10_again 32 = .ok (.getfield 16, 3) := by decide +kernel
theorem dX10_again_35 : decode cX10_again 35 = .ok (.iload_n 2, 1) := by decide +kernel
theorem dX10_again_36 : decode cX10_again 36 = .ok (.aload_n 0, 1) := by decide +kernel
theorem dX10_again_37 : decode cX10_again 37 = .ok (.getfield 47, 3) := by decide +kernel
theorem dX10_again_40 : decode cX10_again 40 = .ok (.iconst 5, 1) := by decide +kernel
theorem dX10_again_41 : decode cX10_again 41 = .ok (.iload_n 1, 1) := by decide +kernel
theorem dX10_again_42 : decode cX10_again 42 = .ok (.imul, 1) := by decide +kernel
theorem dX10_again_43 : decode cX10_again 43 = .ok (.iload_n 2, 1) := by decide +kernel
theorem dX10_again_44 : decode cX10_again 44 = .ok (.iadd, 1) := by decide +kernel
theorem dX10_again_45 : decode cX10_again 45 = .ok (.iaload, 1) := by decide +kernel
theorem dX10_again_46 : decode cX10_again 46 = .ok (.iastore, 1) := by decide +kernel
theorem dX10_again_47 : decode cX10_again 47 = .ok (.iinc 2 1, 3) := by decide +kernel
theorem dX10_again_50 : decode cX10_again 50 = .ok (.goto (-24), 3) := by decide +kernel
theorem dX10_again_53 : decode cX10_again 53 = .ok (.aload_n 0, 1) := by decide +kernel
theorem dX10_again_54 : decode cX10_again 54 = .ok (.iconst 0, 1) := by decide +kernel
theorem dX10_again_55 : decode cX10_again 55 = .ok (.putfield 78, 3) := by decide +kernel
theorem dX10_again_58 : decode cX10_again 58 = .ok (.aload_n 0, 1) := by decide +kernel
theorem dX10_again_59 : decode cX10_again 59 = .ok (.iconst 0, 1) := by decide +kernel
theorem dX10_again_60 : decode cX10_again 60 = .ok (.invokevirtual 154, 3) := by decide +kernel
theorem dX10_again_63 : decode cX10_again 63 = .ok (.ireturn, 1) := by decide +kernel
theorem dX10_count_0 : decode cX10_count 0 = .ok (.iload_n 1, 1) := by decide +kernel
theorem dX10_count_1 : decode cX10_count 1 = .ok (.tableswitch 102 0 8 #[51, 56, 61, 67, 75, 81, 87, 92, 97], 51) := by decide +kernel
theorem dX10_count_52 : decode cX10_count 52 = .ok (.aload_n 0, 1) := by decide +kernel
theorem dX10_count_53 : decode cX10_count 53 = .ok (.getfield 56, 3) := by decide +kernel
theorem dX10_count_56 : decode cX10_count 56 = .ok (.ireturn, 1) := by decide +kernel
theorem dX10_count_57 : decode cX10_count 57 = .ok (.aload_n 0, 1) := by decide +kernel
theorem dX10_count_58 : decode cX10_count 58 = .ok (.getfield 75, 3) := by decide +kernel
theorem dX10_count_61 : decode cX10_count 61 = .ok (.ireturn, 1) := by decide +kernel
theorem dX10_count_62 : decode cX10_count 62 = .ok (.aload_n 0, 1) := by decide +kernel
theorem dX10_count_63 : decode cX10_count 63 = .ok (.iconst 0, 1) := by decide +kernel
theorem dX10_count_64 : decode cX10_count 64 = .ok (.invokevirtual 179, 3) := by decide +kernel
theorem dX10_count_67 : decode cX10_count 67 = .ok (.ireturn, 1) := by decide +kernel
theorem dX10_count_68 : decode cX10_count 68 = .ok (.aload_n 0, 1) := by decide +kernel
theorem dX10_count_69 : decode cX10_count 69 = .ok (.iconst 0, 1) := by decide +kernel
theorem dX10_count_70 : decode cX10_count 70 = .ok (.bipush 63, 2) := by decide +kernel
theorem dX10_count_72 : decode cX10_count 72 = .ok (.invokevirtual 209, 3) := by decide +kernel
theorem dX10_count_75 : decode cX10_count 75 = .ok (.ireturn, 1) := by decide +kernel
theorem dX10_count_76 : decode cX10_count 76 = .ok (.aload_n 0, 1) := by decide +kernel
theorem dX10_count_77 : decode cX10_count 77 = .ok (.iconst 0, 1) := by decide +kernel
theorem dX10_count_78 : decode cX10_count 78 = .ok (.invokevirtual 173, 3) := by decide +kernel
theorem dX10_count_81 : decode cX10_count 81 = .ok (.ireturn, 1) := by decide +kernel
theorem dX10_count_82 : decode cX10_count 82 = .ok (.aload_n 0, 1) := by decide +kernel
theorem dX10_count_83 : decode cX10_count 83 = .ok (.iconst 0, 1) := by decide +kernel
theorem dX10_count_84 : decode cX10_count 84 = .ok (.invokevirtual 154, 3) := by decide +kernel
theorem dX10_count_87 : decode cX10_count 87 = .ok (.ireturn, 1) := by decide +kernel
theorem dX10_count_88 : decode cX10_count 88 = .ok (.aload_n 0, 1) := by decide +kernel
theorem dX10_count_89 : decode cX10_count 89 = .ok (.getfield 94, 3) := by decide +kernel
theorem dX10_count_92 : decode cX10_count 92 = .ok (.ireturn, 1) := by decide +kernel
theorem dX10_count_93 : decode cX10_count 93 = .ok (.aload_n 0, 1) := by decide +kernel
theorem dX10_count_94 : decode cX10_count 94 = .ok (.getfield 78, 3) := by decide +kernel
theorem dX10_count_97 : decode cX10_count 97 = .ok (.ireturn, 1) := by decide +kernel
theorem dX10_count_98 : decode cX10_count 98 = .ok (.aload_n 0, 1) := by decide +kernel
theorem dX10_count_99 : decode cX10_count 99 = .ok (.getfield 196, 3) := by decide +kernel
theorem dX10_count_102 : decode cX10_count 102 = .ok (.ireturn, 1) := by decide +kernel
theorem dX10_count_103 : decode cX10_count 103 = .ok (.bipush (-2), 2) := by decide +kernel
theorem dX10_count_105 : decode cX10_count 105 = .ok (.ireturn, 1) := by decide +kernel
theorem dJ9_abs_0f7a4_0 : decode cJ9_abs_0f7a4 0 = .ok (.iload_n 0, 1) := by decide +kernel
theorem dJ9_abs_0f7a4_1 : decode cJ9_abs_0f7a4 1 = .ok (.ifCond .ge 8, 3) := by decide +kernel
theorem dJ9_abs_0f7a4_4 : decode cJ9_abs_0f7a4 4 = .ok (.iload_n 0, 1) := by decide +kernel
theorem dJ9_abs_0f7a4_5 : decode cJ9_abs_0f7a4 5 = .ok (.ineg, 1) := by decide +kernel
theorem dJ9_abs_0f7a4_6 : decode cJ9_abs_0f7a4 6 = .ok (.goto 4, 3) := by decide +kernel
theorem dJ9_abs_0f7a4_9 : decode cJ9_abs_0f7a4 9 = .ok (.iload_n 0, 1) := by decide +kernel
theorem dJ9_abs_0f7a4_10 : decode cJ9_abs_0f7a4 10 = .ok (.ireturn, 1) := by decide +kernel
theorem dJ9_max_7cf53_0 : decode cJ9_max_7cf53 0 = .ok (.iload_n 0, 1) := by decide +kernel
theorem dJ9_max_7cf53_1 : decode cJ9_max_7cf53 1 = .ok (.iload_n 1, 1) := by decide +kernel
theorem dJ9_max_7cf53_2 : decode cJ9_max_7cf53 2 = .ok (.if_icmp .lt 7, 3) := by decide +kernel
theorem dJ9_max_7cf53_5 : decode cJ9_max_7cf53 5 = .ok (.iload_n 0, 1) := by decide +kernel
theorem dJ9_max_7cf53_6 : decode cJ9_max_7cf53 6 = .ok (.goto 4, 3) := by decide +kernel
theorem dJ9_max_7cf53_9 : decode cJ9_max_7cf53 9 = .ok (.iload_n 1, 1) := by decide +kernel
theorem dJ9_max_7cf53_10 : decode cJ9_max_7cf53 10 = .ok (.ireturn, 1) := by decide +kernel
theorem dJ9_min_7cf53_0 : decode cJ9_min_7cf53 0 = .ok (.iload_n 0, 1) := by decide +kernel
theorem dJ9_min_7cf53_1 : decode cJ9_min_7cf53 1 = .ok (.iload_n 1, 1) := by decide +kernel
theorem dJ9_min_7cf53_2 : decode cJ9_min_7cf53 2 = .ok (.if_icmp .gt 7, 3) := by decide +kernel
theorem dJ9_min_7cf53_5 : decode cJ9_min_7cf53 5 = .ok (.iload_n 0, 1) := by decide +kernel
theorem dJ9_min_7cf53_6 : decode cJ9_min_7cf53 6 = .ok (.goto 4, 3) := by decide +kernel
theorem dJ9_min_7cf53_9 : decode cJ9_min_7cf53 9 = .ok (.iload_n 1, 1) := by decide +kernel
theorem dJ9_min_7cf53_10 : decode cJ9_min_7cf53 10 = .ok (.ireturn, 1) := by decide +kernel
theorem dJ7_fill_53178_0 : decode cJ7_fill_53178 0 = .ok (.iconst 0, 1) := by decide +kernel
theorem dJ7_fill_53178_1 : decode cJ7_fill_53178 1 = .ok (.istore_n 2, 1) := by decide +kernel
theorem dJ7_fill_53178_2 : decode cJ7_fill_53178 2 = .ok (.aload_n 0, 1) := by decide +kernel
theorem dJ7_fill_53178_3 : decode cJ7_fill_53178 3 = .ok (.arraylength, 1) := by decide +kernel
theorem dJ7_fill_53178_4 : decode cJ7_fill_53178 4 = .ok (.istore_n 3, 1) := by decide +kernel
theorem dJ7_fill_53178_5 : decode cJ7_fill_53178 5 = .ok (.iload_n 2, 1) := by decide +kernel
theorem dJ7_fill_53178_6 : decode cJ7_fill_53178 6 = .ok (.iload_n 3, 1) := by decide +kernel
theorem dJ7_fill_53178_7 : decode cJ7_fill_53178 7 = .ok (.if_icmp .ge 13, 3) := by decide +kernel
theorem dJ7_fill_53178_10 : decode cJ7_fill_53178 10 = .ok (.aload_n 0, 1) := by decide +kernel
theorem dJ7_fill_53178_11 : decode cJ7_fill_53178 11 = .ok (.iload_n 2, 1) := by decide +kernel
theorem dJ7_fill_53178_12 : decode cJ7_fill_53178 12 = .ok (.iload_n 1, 1) := by decide +kernel
theorem dJ7_fill_53178_13 : decode cJ7_fill_53178 13 = .ok (.iastore, 1) := by decide +kernel
theorem dJ7_fill_53178_14 : decode cJ7_fill_53178 14 = .ok (.iinc 2 1, 3) := by decide +kernel
theorem dJ7_fill_53178_17 : decode cJ7_fill_53178 17 = .ok (.goto (-12), 3) := by decide +kernel
theorem dJ7_fill_53178_20 : decode cJ7_fill_53178 20 = .ok (.return_, 1) := by decide +kernel
theorem dL_law_0 : decode cL_law 0 = .ok (.new 7, 3) := by decide +kernel
theorem dL_law_3 : decode cL_law 3 = .ok (.dup, 1) := by decide +kernel
theorem dL_law_4 : decode cL_law 4 = .ok (.invokespecial 9, 3) := by decide +kernel
theorem dL_law_7 : decode cL_law 7 = .ok (.astore_n 1, 1) := by decide +kernel
theorem dL_law_8 : decode cL_law 8 = .ok (.new 10, 3) := by decide +kernel
theorem dL_law_11 : decode cL_law 11 = .ok (.dup, 1) := by decide +kernel
theorem dL_law_12 : decode cL_law 12 = .ok (.invokespecial 12, 3) := by decide +kernel
theorem dL_law_15 : decode cL_law 15 = .ok (.astore_n 2, 1) := by decide +kernel
theorem dL_law_16 : decode cL_law 16 = .ok (.iconst 0, 1) := by decide +kernel
theorem dL_law_17 : decode cL_law 17 = .ok (.istore_n 3, 1) := by decide +kernel
theorem dL_law_18 : decode cL_law 18 = .ok (.iload_n 3, 1) := by decide +kernel
theorem dL_law_19 : decode cL_law 19 = .ok (.aload_n 0, 1) := by decide +kernel
theorem dL_law_20 : decode cL_law 20 = .ok (.arraylength, 1) := by decide +kernel
theorem dL_law_21 : decode cL_law 21 = .ok (.iconst 4, 1) := by decide +kernel
theorem dL_law_22 : decode cL_law 22 = .ok (.isub, 1) := by decide +kernel
theorem dL_law_23 : decode cL_law 23 = .ok (.if_icmp .gt 953, 3) := by decide +kernel
theorem dL_law_26 : decode cL_law 26 = .ok (.aload_n 0, 1) := by decide +kernel
theorem dL_law_27 : decode cL_law 27 = .ok (.iload_n 3, 1) := by decide +kernel
theorem dL_law_28 : decode cL_law 28 = .ok (.iaload, 1) := by decide +kernel
theorem dL_law_29 : decode cL_law 29 = .ok (.bipush 31, 2) := by decide +kernel
theorem dL_law_31 : decode cL_law 31 = .ok (.iand, 1) := by decide +kernel
theorem dL_law_32 : decode cL_law 32 = .ok (.tableswitch 938 0 26 #[124, 147, 160, 173, 186, 249, 282, 325, 348, 371, 384, 397, 410, 433, 466, 499, 562, 605, 618, 641, 690, 733, 792, 846, 869, 892, 915], 124) := by decide +kernel
theorem dL_law_156 : decode cL_law 156 = .ok (.aload_n 1, 1) := by decide +kernel
theorem dL_law_157 : decode cL_law 157 = .ok (.aload_n 0, 1) := by decide +kernel
theorem dL_law_158 : decode cL_law 158 = .ok (.iload_n 3, 1) := by decide +kernel
theorem dL_law_159 : decode cL_law 159 = .ok (.iconst 1, 1) := by decide +kernel
theorem dL_law_160 : decode cL_law 160 = .ok (.iadd, 1) := by decide +kernel
theorem dL_law_161 : decode cL_law 161 = .ok (.iaload, 1) := by decide +kernel
theorem dL_law_162 : decode cL_law 162 = .ok (.invokevirtual 13, 3) := by decide +kernel
theorem dL_law_165 : decode cL_law 165 = .ok (.aload_n 2, 1) := by decide +kernel
theorem dL_law_166 : decode cL_law 166 = .ok (.aload_n 0, 1) := by decide +kernel
theorem dL_law_167 : decode cL_law 167 = .ok (.iload_n 3, 1) := by decide +kernel
theorem dL_law_168 : decode cL_law 168 = .ok (.iconst 1, 1) := by decide +kernel
theorem dL_law_169 : decode cL_law 169 = .ok (.iadd, 1) := by decide +kernel
theorem dL_law_170 : decode cL_law 170 = .ok (.iaload, 1) := by decide +kernel
theorem dL_law_171 : decode cL_law 171 = .ok (.invokevirtual 17, 3) := by decide +kernel
theorem dL_law_174 : decode cL_law 174 = .ok (.if_icmp .eq 796, 3) := by decide +kernel
theorem dL_law_177 : decode cL_law 177 = .ok (.iconst 0, 1) := by decide +kernel
theorem dL_law_178 : decode cL_law 178 = .ok (.ireturn, 1) := by decide +kernel
theorem dL_law_179 : decode cL_law 179 = .ok (.aload_n 1, 1) := by decide +kernel
theorem dL_law_180 : decode cL_law 180 = .ok (.invokevirtual 18, 3) := by decide +kernel
theorem dL_law_183 : decode cL_law 183 = .ok (.aload_n 2, 1) := by decide +kernel
theorem dL_law_184 : decode cL_law 184 = .ok (.invokevirtual 22, 3) := by decide +kernel
theorem dL_law_187 : decode cL_law 187 = .ok (.if_icmp .eq 783, 3) := by decide +kernel
theorem dL_law_190 : decode cL_law 190 = .ok (.iconst 0, 1) := by decide +kernel
theorem dL_law_191 : decode cL_law 191 = .ok (.ireturn, 1) := by decide +kernel
theorem dL_law_192 : decode cL_law 192 = .ok (.aload_n 1, 1) := by decide +kernel
theorem dL_law_193 : decode cL_law 193 = .ok (.invokevirtual 23, 3) := by decide +kernel
theorem dL_law_196 : decode cL_law 196 = .ok (.aload_n 2, 1) := by decide +kernel
theorem dL_law_197 : decode cL_law 197 = .ok (.invokevirtual 26, 3) := by decide +kernel
theorem dL_law_200 : decode cL_law 200 = .ok (.if_icmp .eq 770, 3) := by decide +kernel
theorem dL_law_203 : decode cL_law 203 = .ok (.iconst 0, 1) := by decide +kernel
theorem dL_law_204 : decode cL_law 204 = .ok (.ireturn, 1) := by decide +kernel
theorem dL_law_205 : decode cL_law 205 = .ok (.aload_n 1, 1) := by decide +kernel
theorem dL_law_206 : decode cL_law 206 = .ok (.invokevirtual 27, 3) := by decide +kernel
theorem dL_law_209 : decode cL_law 209 = .ok (.aload_n 2, 1) := by decide +kernel
theorem dL_law_210 : decode cL_law 210 = .ok (.invokevirtual 30, 3) := by decide +kernel
theorem dL_law_213 : decode cL_law 213 = .ok (.if_icmp .eq 757, 3) := by decide +kernel
theorem dL_law_216 : decode cL_law 216 = .ok (.iconst 0, 1) := by decide +kernel
theorem dL_law_217 : decode cL_law 217 = .ok (.ireturn, 1) := by decide +kernel
theorem dL_law_218 : decode cL_law 218 = .ok (.aload_n 1, 1) := by decide +kernel
theorem dL_law_219 : decode cL_law 219 = .ok (.aload_n 0, 1) := by decide +kernel
theorem dL_law_220 : decode cL_law 220 = .ok (.iload_n 3, 1) := by decide +kernel
theorem dL_law_221 : decode cL_law 221 = .ok (.iconst 1, 1) := by decide +kernel
theorem dL_law_222 : decode cL_law 222 = .ok (.iadd, 1) := by decide +kernel
theorem dL_law_223 : decode cL_law 223 = .ok (.iaload, 1) := by decide +kernel
theorem dL_law_224 : decode cL_law 224 = .ok (.aload_n 0, 1) := by decide +kernel
theorem dL_law_225 : decode cL_law 225 = .ok (.iload_n 3, 1) := by decide +kernel
theorem dL_law_226 : decode cL_law 226 = .ok (.iconst 2, 1) := by decide +kernel
theorem dL_law_227 : decode cL_law 227 = .ok (.iadd, 1) := by decide +kernel
theorem dL_law_228 : decode cL_law 228 = .ok (.iaload, 1) := by decide +kernel
theorem dL_law_229 : decode cL_law 229 = .ok (.i2l, 1) := by decide +kernel
theorem dL_law_230 : decode cL_law 230 = .ok (.bipush 32, 2) := by decide +kernel
theorem dL_law_232 : decode cL_law 232 = .ok (.lshl, 1) := by decide +kernel
theorem dL_law_233 : decode cL_law 233 = .ok (.aload_n 0, 1) := by decide +kernel
theorem dL_law_234 : decode cL_law 234 = .ok (.iload_n 3, 1) := by decide +kernel
theorem dL_law_235 : decode cL_law 235 = .ok (.iconst 3, 1) := by decide +kernel
theorem dL_law_236 : decode cL_law 236 = .ok (.iadd, 1) := by decide +kernel
theorem dL_law_237 : decode cL_law 237 = .ok (.iaload, 1) := by decide +kernel
theorem dL_law_238 : decode cL_law 238 = .ok (.i2l, 1) := by decide +kernel
theorem dL_law_239 : decode cL_law 239 = .ok (.ldc2_w 31, 3) := by decide +kernel
theorem dL_law_242 : decode cL_law 242 = .ok (.land, 1) := by decide +kernel
theorem dL_law_243 : decode cL_law 243 = .ok (.lor, 1) := by decide +kernel
theorem dL_law_244 : decode cL_law 244 = .ok (.invokevirtual 33, 3) := by decide +kernel
theorem dL_law_247 : decode cL_law 247 = .ok (.aload_n 2, 1) := by decide +kernel
theorem dL_law_248 : decode cL_law 248 = .ok (.aload_n 0, 1) := by decide +kernel
theorem dL_law_249 : decode cL_law 249 = .ok (.iload_n 3, 1) := by decide +kernel
theorem dL_law_250 : decode cL_law 250 = .ok (.iconst 1, 1) := by decide +kernel
theorem dL_law_251 : decode cL_law 251 = .ok (.iadd, 1) := by decide +kernel
theorem dL_law_252 : decode cL_law 252 = .ok (.iaload, 1) := by decide +kernel
theorem dL_law_253 : decode cL_law 253 = .ok (.aload_n 0, 1) := by decide +kernel
theorem dL_law_254 : decode cL_law 254 = .ok (.iload_n 3, 1) := by decide +kernel
theorem dL_law_255 : decode cL_law 255 = .ok (.iconst 2, 1) := by decide +kernel
theorem dL_law_256 : decode cL_law 256 = .ok (.iadd, 1) := by decide +kernel
theorem dL_law_257 : decode cL_law 257 = .ok (.iaload, 1) := by decide +kernel
theorem dL_law_258 : decode cL_law 258 = .ok (.i2l, 1) := by decide +kernel
theorem dL_law_259 : decode cL_law 259 = .ok (.bipush 32, 2) := by decide +kernel
theorem dL_law_261 : decode cL_law 261 = .ok (.lshl, 1) := by decide +kernel
theorem dL_law_262 : decode cL_law 262 = .ok (.aload_n 0, 1) := by decide +kernel
theorem dL_law_263 : decode cL_law 263 = .ok (.iload_n 3, 1) := by decide +kernel
theorem dL_law_264 : decode cL_law 264 = .ok (.iconst 3, 1) := by decide +kernel
theorem dL_law_265 : decode cL_law 265 = .ok (.iadd, 1) := by decide +kernel
theorem dL_law_266 : decode cL_law 266 = .ok (.iaload, 1) := by decide +kernel
theorem dL_law_267 : decode cL_law 267 = .ok (.i2l, 1) := by decide +kernel
theorem dL_law_268 : decode cL_law 268 = .ok (.ldc2_w 31, 3) := by decide +kernel
theorem dL_law_271 : decode cL_law 271 = .ok (.land, 1) := by decide +kernel
theorem dL_law_272 : decode cL_law 272 = .ok (.lor, 1) := by decide +kernel
theorem dL_law_273 : decode cL_law 273 = .ok (.invokevirtual 37, 3) := by decide +kernel
theorem dL_law_276 : decode cL_law 276 = .ok (.if_icmp .eq 694, 3) := by decide +kernel
theorem dL_law_279 : decode cL_law 279 = .ok (.iconst 0, 1) := by decide +kernel
theorem dL_law_280 : decode cL_law 280 = .ok (.ireturn, 1) := by decide +kernel
theorem dL_law_281 : decode cL_law 281 = .ok (.aload_n 1, 1) := by decide +kernel
theorem dL_law_282 : decode cL_law 282 = .ok (.aload_n 0, 1) := by decide +kernel
theorem dL_law_283 : decode cL_law 283 = .ok (.iload_n 3, 1) := by decide +kernel
theorem dL_law_284 : decode cL_law 284 = .ok (.iconst 1, 1) := by decide +kernel
theorem dL_law_285 : decode cL_law 285 = .ok (.iadd, 1) := by decide +kernel
theorem dL_law_286 : decode cL_law 286 = .ok (.iaload, 1) := by decide +kernel
theorem dL_law_287 : decode cL_law 287 = .ok (.aload_n 0, 1) := by decide +kernel
theorem dL_law_288 : decode cL_law 288 = .ok (.iload_n 3, 1) := by decide +kernel
theorem dL_law_289 : decode cL_law 289 = .ok (.iconst 2, 1) := by decide +kernel
theorem dL_law_290 : decode cL_law 290 = .ok (.iadd, 1) := by decide +kernel
theorem dL_law_291 : decode cL_law 291 = .ok (.iaload, 1) := by decide +kernel
theorem dL_law_292 : decode cL_law 292 = .ok (.invokevirtual 38, 3) := by decide +kernel
theorem dL_law_295 : decode cL_law 295 = .ok (.aload_n 2, 1) := by decide +kernel
theorem dL_law_296 : decode cL_law 296 = .ok (.aload_n 0, 1) := by decide +kernel
theorem dL_law_297 : decode cL_law 297 = .ok (.iload_n 3, 1) := by decide +kernel
theorem dL_law_298 : decode cL_law 298 = .ok (.iconst 1, 1) := by decide +kernel
theorem dL_law_299 : decode cL_law 299 = .ok (.iadd, 1) := by decide +kernel
theorem dL_law_300 : decode cL_law 300 = .ok (.iaload, 1) := by decide +kernel
theorem dL_law_301 : decode cL_law 301 = .ok (.aload_n 0, 1) := by decide +kernel
theorem dL_law_302 : decode cL_law 302 = .ok (.iload_n 3, 1) := by decide +kernel
theorem dL_law_303 : decode cL_law 303 = .ok (.iconst 2, 1) := by decide +kernel
theorem dL_law_304 : decode cL_law 304 = .ok (.iadd, 1) := by decide +kernel
theorem dL_law_305 : decode cL_law 305 = .ok (.iaload, 1) := by decide +kernel
theorem dL_law_306 : decode cL_law 306 = .ok (.invokevirtual 42, 3) := by decide +kernel
theorem dL_law_309 : decode cL_law 309 = .ok (.if_icmp .eq 661, 3) := by decide +kernel
theorem dL_law_312 : decode cL_law 312 = .ok (.iconst 0, 1) := by decide +kernel
theorem dL_law_313 : decode cL_law 313 = .ok (.ireturn, 1) := by decide +kernel
theorem dL_law_314 : decode cL_law 314 = .ok (.aload_n 1, 1) := by decide +kernel
theorem dL_law_315 : decode cL_law 315 = .ok (.aload_n 0, 1) := by decide +kernel
theorem dL_law_316 : decode cL_law 316 = .ok (.iload_n 3, 1) := by decide +kernel
theorem dL_law_317 : decode cL_law 317 = .ok (.iconst 1, 1) := by decide +kernel
theorem dL_law_318 : decode cL_law 318 = .ok (.iadd, 1) := by decide +kernel
theorem dL_law_319 : decode cL_law 319 = .ok (.iaload, 1) := by decide +kernel
theorem dL_law_320 : decode cL_law 320 = .ok (.aload_n 0, 1) := by decide +kernel
theorem dL_law_321 : decode cL_law 321 = .ok (.iload_n 3, 1) := by decide +kernel
theorem dL_law_322 : decode cL_law 322 = .ok (.iconst 2, 1) := by decide +kernel
theorem dL_law_323 : decode cL_law 323 = .ok (.iadd, 1) := by decide +kernel
theorem dL_law_324 : decode cL_law 324 = .ok (.iaload, 1) := by decide +kernel
theorem dL_law_325 : decode cL_law 325 = .ok (.aload_n 0, 1) := by decide +kernel
theorem dL_law_326 : decode cL_law 326 = .ok (.iload_n 3, 1) := by decide +kernel
theorem dL_law_327 : decode cL_law 327 = .ok (.iconst 3, 1) := by decide +kernel
theorem dL_law_328 : decode cL_law 328 = .ok (.iadd, 1) := by decide +kernel
theorem dL_law_329 : decode cL_law 329 = .ok (.iaload, 1) := by decide +kernel
theorem dL_law_330 : decode cL_law 330 = .ok (.invokevirtual 43, 3) := by decide +kernel
theorem dL_law_333 : decode cL_law 333 = .ok (.aload_n 2, 1) := by decide +kernel
theorem dL_law_334 : decode cL_law 334 = .ok (.aload_n 0, 1) := by decide +kernel
theorem dL_law_335 : decode cL_law 335 = .ok (.iload_n 3, 1) := by decide +kernel
theorem dL_law_336 : decode cL_law 336 = .ok (.iconst 1, 1) := by decide +kernel
theorem dL_law_337 : decode cL_law 337 = .ok (.iadd, 1) := by decide +kernel
theorem dL_law_338 : decode cL_law 338 = .ok (.iaload, 1) := by decide +kernel
theorem dL_law_339 : decode cL_law 339 = .ok (.aload_n 0, 1) := by decide +kernel
theorem dL_law_340 : decode cL_law 340 = .ok (.iload_n 3, 1) := by decide +kernel
theorem dL_law_341 : decode cL_law 341 = .ok (.iconst 2, 1) := by decide +kernel
theorem dL_law_342 : decode cL_law 342 = .ok (.iadd, 1) := by decide +kernel
theorem dL_law_343 : decode cL_law 343 = .ok (.iaload, 1) := by decide +kernel
theorem dL_law_344 : decode cL_law 344 = .ok (.aload_n 0, 1) := by decide +kernel
theorem dL_law_345 : decode cL_law 345 = .ok (.iload_n 3, 1) := by decide +kernel
theorem dL_law_346 : decode cL_law 346 = .ok (.iconst 3, 1) := by decide +kernel
theorem dL_law_347 : decode cL_law 347 = .ok (.iadd, 1) := by decide +kernel
theorem dL_law_348 : decode cL_law 348 = .ok (.iaload, 1) := by decide +kernel
theorem dL_law_349 : decode cL_law 349 = .ok (.invokevirtual 47, 3) := by decide +kernel
theorem dL_law_352 : decode cL_law 352 = .ok (.if_icmp .eq 618, 3) := by decide +kernel
theorem dL_law_355 : decode cL_law 355 = .ok (.iconst 0, 1) := by decide +kernel
theorem dL_law_356 : decode cL_law 356 = .ok (.ireturn, 1) := by decide +kernel
theorem dL_law_357 : decode cL_law 357 = .ok (.aload_n 1, 1) := by decide +kernel
theorem dL_law_358 : decode cL_law 358 = .ok (.aload_n 0, 1) := by decide +kernel
theorem dL_law_359 : decode cL_law 359 = .ok (.iload_n 3, 1) := by decide +kernel
theorem dL_law_360 : decode cL_law 360 = .ok (.iconst 1, 1) := by decide +kernel
theorem dL_law_361 : decode cL_law 361 = .ok (.iadd, 1) := by decide +kernel
theorem dL_law_362 : decode cL_law 362 = .ok (.iaload, 1) := by decide +kernel
theorem dL_law_363 : decode cL_law 363 = .ok (.invokevirtual 48, 3) := by decide +kernel
theorem dL_law_366 : decode cL_law 366 = .ok (.aload_n 2, 1) := by decide +kernel
theorem dL_law_367 : decode cL_law 367 = .ok (.aload_n 0, 1) := by decide +kernel
theorem dL_law_368 : decode cL_law 368 = .ok (.iload_n 3, 1) := by decide +kernel
theorem dL_law_369 : decode cL_law 369 = .ok (.iconst 1, 1) := by decide +kernel
theorem dL_law_370 : decode cL_law 370 = .ok (.iadd, 1) := by decide +kernel
theorem dL_law_371 : decode cL_law 371 = .ok (.iaload, 1) := by decide +kernel
theorem dL_law_372 : decode cL_law 372 = .ok (.invokevirtual 51, 3) := by decide +kernel
theorem dL_law_375 : decode cL_law 375 = .ok (.if_icmp .eq 595, 3) := by decide +kernel
theorem dL_law_378 : decode cL_law 378 = .ok (.iconst 0, 1) := by decide +kernel
theorem dL_law_379 : decode cL_law 379 = .ok (.ireturn, 1) := by decide +kernel
theorem dL_law_380 : decode cL_law 380 = .ok (.aload_n 1, 1) := by decide +kernel
theorem dL_law_381 : decode cL_law 381 = .ok (.aload_n 0, 1) := by decide +kernel
theorem dL_law_382 : decode cL_law 382 = .ok (.iload_n 3, 1) := by decide +kernel
theorem dL_law_383 : decode cL_law 383 = .ok (.iconst 1, 1) := by decide +kernel
theorem dL_law_384 : decode cL_law 384 = .ok (.iadd, 1) := by decide +kernel
theorem dL_law_385 : decode cL_law 385 = .ok (.iaload, 1) := by decide +kernel
theorem dL_law_386 : decode cL_law 386 = .ok (.invokevirtual 52, 3) := by decide +kernel
theorem dL_law_389 : decode cL_law 389 = .ok (.aload_n 2, 1) := by decide +kernel
theorem dL_law_390 : decode cL_law 390 = .ok (.aload_n 0, 1) := by decide +kernel
theorem dL_law_391 : decode cL_law 391 = .ok (.iload_n 3, 1) := by decide +kernel
theorem dL_law_392 : decode cL_law 392 = .ok (.iconst 1, 1) := by decide +kernel
theorem dL_law_393 : decode cL_law 393 = .ok (.iadd, 1) := by decide +kernel
theorem dL_law_394 : decode cL_law 394 = .ok (.iaload, 1) := by decide +kernel
theorem dL_law_395 : decode cL_law 395 = .ok (.invokevirtual 55, 3) := by decide +kernel
theorem dL_law_398 : decode cL_law 398 = .ok (.if_icmp .eq 572, 3) := by decide +kernel
theorem dL_law_401 : decode cL_law 401 = .ok (.iconst 0, 1) := by decide +kernel
theorem dL_law_402 : decode cL_law 402 = .ok (.ireturn, 1) := by decide +kernel
theorem dL_law_403 : decode cL_law 403 = .ok (.aload_n 1, 1) := by decide +kernel
theorem dL_law_404 : decode cL_law 404 = .ok (.invokevirtual 56, 3) := by decide +kernel
theorem dL_law_407 : decode cL_law 407 = .ok (.aload_n 2, 1) := by decide +kernel
theorem dL_law_408 : decode cL_law 408 = .ok (.invokevirtual 59, 3) := by decide +kernel
theorem dL_law_411 : decode cL_law 411 = .ok (.if_icmp .eq 559, 3) := by decide +kernel
theorem dL_law_414 : decode cL_law 414 = .ok (.iconst 0, 1) := by decide +kernel
theorem dL_law_415 : decode cL_law 415 = .ok (.ireturn, 1) := by decide +kernel
theorem dL_law_416 : decode cL_law 416 = .ok (.aload_n 1, 1) := by decide +kernel
theorem dL_law_417 : decode cL_law 417 = .ok (.invokevirtual 60, 3) := by decide +kernel
theorem dL_law_420 : decode cL_law 420 = .ok (.aload_n 2, 1) := by decide +kernel
theorem dL_law_421 : decode cL_law 421 = .ok (.invokevirtual 63, 3) := by decide +kernel
theorem dL_law_424 : decode cL_law 424 = .ok (.if_icmp .eq 546, 3) := by decide +kernel
theorem dL_law_427 : decode cL_law 427 = .ok (.iconst 0, 1) := by decide +kernel
theorem dL_law_428 : decode cL_law 428 = .ok (.ireturn, 1) := by decide +kernel
theorem dL_law_429 : decode cL_law 429 = .ok (.aload_n 1, 1) := by decide +kernel
theorem dL_law_430 : decode cL_law 430 = .ok (.invokevirtual 64, 3) := by decide +kernel
theorem dL_law_433 : decode cL_law 433 = .ok (.aload_n 2, 1) := by decide +kernel
theorem dL_law_434 : decode cL_law 434 = .ok (.invokevirtual 67, 3) := by decide +kernel
theorem dL_law_437 : decode cL_law 437 = .ok (.if_icmp .eq 533, 3) := by decide +kernel
theorem dL_law_440 : decode cL_law 440 = .ok (.iconst 0, 1) := by decide +kernel
theorem dL_law_441 : decode cL_law 441 = .ok (.ireturn, 1) := by decide +kernel
theorem dL_law_442 : decode cL_law 442 = .ok (.aload_n 1, 1) := by decide +kernel
theorem dL_law_443 : decode cL_law 443 = .ok (.aload_n 0, 1) := by decide +kernel
theorem dL_law_444 : decode cL_law 444 = .ok (.iload_n 3, 1) := by decide +kernel
theorem dL_law_445 : decode cL_law 445 = .ok (.iconst 1, 1) := by decide +kernel
theorem dL_law_446 : decode cL_law 446 = .ok (.iadd, 1) := by decide +kernel
theorem dL_law_447 : decode cL_law 447 = .ok (.iaload, 1) := by decide +kernel
theorem dL_law_448 : decode cL_law 448 = .ok (.invokevirtual 68, 3) := by decide +kernel
theorem dL_law_451 : decode cL_law 451 = .ok (.aload_n 2, 1) := by decide +kernel
theorem dL_law_452 : decode cL_law 452 = .ok (.aload_n 0, 1) := by decide +kernel
theorem dL_law_453 : decode cL_law 453 = .ok (.iload_n 3, 1) := by decide +kernel
theorem dL_law_454 : decode cL_law 454 = .ok (.iconst 1, 1) := by decide +kernel
theorem dL_law_455 : decode cL_law 455 = .ok (.iadd, 1) := by decide +kernel
theorem dL_law_456 : decode cL_law 456 = .ok (.iaload, 1) := by decide +kernel
theorem dL_law_457 : decode cL_law 457 = .ok (.invokevirtual 71, 3) := by decide +kernel
theorem dL_law_460 : decode cL_law 460 = .ok (.if_icmp .eq 510, 3) := by decide +kernel
theorem dL_law_463 : decode cL_law 463 = .ok (.iconst 0, 1) := by decide +kernel
theorem dL_law_464 : decode cL_law 464 = .ok (.ireturn, 1) := by decide +kernel
theorem dL_law_465 : decode cL_law 465 = .ok (.aload_n 1, 1) := by decide +kernel
theorem dL_law_466 : decode cL_law 466 = .ok (.aload_n 0, 1) := by decide +kernel
theorem dL_law_467 : decode cL_law 467 = .ok (.iload_n 3, 1) := by decide +kernel
theorem dL_law_468 : decode cL_law 468 = .ok (.iconst 1, 1) := by decide +kernel
theorem dL_law_469 : decode cL_law 469 = .ok (.iadd, 1) := by decide +kernel
theorem dL_law_470 : decode cL_law 470 = .ok (.iaload, 1) := by decide +kernel
theorem dL_law_471 : decode cL_law 471 = .ok (.aload_n 0, 1) := by decide +kernel
theorem dL_law_472 : decode cL_law 472 = .ok (.iload_n 3, 1) := by decide +kernel
theorem dL_law_473 : decode cL_law 473 = .ok (.iconst 2, 1) := by decide +kernel
theorem dL_law_474 : decode cL_law 474 = .ok (.iadd, 1) := by decide +kernel
theorem dL_law_475 : decode cL_law 475 = .ok (.iaload, 1) := by decide +kernel
theorem dL_law_476 : decode cL_law 476 = .ok (.invokevirtual 72, 3) := by decide +kernel
theorem dL_law_479 : decode cL_law 479 = .ok (.aload_n 2, 1) := by decide +kernel
theorem dL_law_480 : decode cL_law 480 = .ok (.aload_n 0, 1) := by decide +kernel
theorem dL_law_481 : decode cL_law 481 = .ok (.iload_n 3, 1) := by decide +kernel
theorem dL_law_482 : decode cL_law 482 = .ok (.iconst 1, 1) := by decide +kernel
theorem dL_law_483 : decode cL_law 483 = .ok (.iadd, 1) := by decide +kernel
theorem dL_law_484 : decode cL_law 484 = .ok (.iaload, 1) := by decide +kernel
theorem dL_law_485 : decode cL_law 485 = .ok (.aload_n 0, 1) := by decide +kernel
theorem dL_law_486 : decode cL_law 486 = .ok (.iload_n 3, 1) := by decide +kernel
theorem dL_law_487 : decode cL_law 487 = .ok (.iconst 2, 1) := by decide +kernel
theorem dL_law_488 : decode cL_law 488 = .ok (.iadd, 1) := by decide +kernel
theorem dL_law_489 : decode cL_law 489 = .ok (.iaload, 1) := by decide +kernel
theorem dL_law_490 : decode cL_law 490 = .ok (.invokevirtual 75, 3) := by decide +kernel
theorem dL_law_493 : decode cL_law 493 = .ok (.if_icmp .eq 477, 3) := by decide +kernel
theorem dL_law_496 : decode cL_law 496 = .ok (.iconst 0, 1) := by decide +kernel
theorem dL_law_497 : decode cL_law 497 = .ok (.ireturn, 1) := by decide +kernel
theorem dL_law_498 : decode cL_law 498 = .ok (.aload_n 1, 1) := by decide +kernel
theorem dL_law_499 : decode cL_law 499 = .ok (.aload_n 0, 1) := by decide +kernel
theorem dL_law_500 : decode cL_law 500 = .ok (.iload_n 3, 1) := by decide +kernel
theorem dL_law_501 : decode cL_law 501 = .ok (.iconst 1, 1) := by decide +kernel
theorem dL_law_502 : decode cL_law 502 = .ok (.iadd, 1) := by decide +kernel
theorem dL_law_503 : decode cL_law 503 = .ok (.iaload, 1) := by decide +kernel
theorem dL_law_504 : decode cL_law 504 = .ok (.aload_n 0, 1) := by decide +kernel
theorem dL_law_505 : decode cL_law 505 = .ok (.iload_n 3, 1) := by decide +kernel
theorem dL_law_506 : decode cL_law 506 = .ok (.iconst 2, 1) := by decide +kernel
theorem dL_law_507 : decode cL_law 507 = .ok (.iadd, 1) := by decide +kernel
theorem dL_law_508 : decode cL_law 508 = .ok (.iaload, 1) := by decide +kernel
theorem dL_law_509 : decode cL_law 509 = .ok (.invokevirtual 76, 3) := by decide +kernel
theorem dL_law_512 : decode cL_law 512 = .ok (.aload_n 2, 1) := by decide +kernel
theorem dL_law_513 : decode cL_law 513 = .ok (.aload_n 0, 1) := by decide +kernel
theorem dL_law_514 : decode cL_law 514 = .ok (.iload_n 3, 1) := by decide +kernel
theorem dL_law_515 : decode cL_law 515 = .ok (.iconst 1, 1) := by decide +kernel
theorem dL_law_516 : decode cL_law 516 = .ok (.iadd, 1) := by decide +kernel
theorem dL_law_517 : decode cL_law 517 = .ok (.iaload, 1) := by decide +kernel
theorem dL_law_518 : decode cL_law 518 = .ok (.aload_n 0, 1) := by decide +kernel
theorem dL_law_519 : decode cL_law 519 = .ok (.iload_n 3, 1) := by decide +kernel
theorem dL_law_520 : decode cL_law 520 = .ok (.iconst 2, 1) := by decide +kernel
theorem dL_law_521 : decode cL_law 521 = .ok (.iadd, 1) := by decide +kernel
theorem dL_law_522 : decode cL_law 522 = .ok (.iaload, 1) := by decide +kernel
theorem dL_law_523 : decode cL_law 523 = .ok (.invokevirtual 79, 3) := by decide +kernel
theorem dL_law_526 : decode cL_law 526 = .ok (.if_icmp .eq 444, 3) := by decide +kernel
theorem dL_law_529 : decode cL_law 529 = .ok (.iconst 0, 1) := by decide +kernel
theorem dL_law_530 : decode cL_law 530 = .ok (.ireturn, 1) := by decide +kernel
theorem dL_law_531 : decode cL_law 531 = .ok (.aload_n 1, 1) := by decide +kernel
theorem dL_law_532 : decode cL_law 532 = .ok (.aload_n 0, 1) := by decide +kernel
theorem dL_law_533 : decode cL_law 533 = .ok (.iload_n 3, 1) := by decide +kernel
theorem dL_law_534 : decode cL_law 534 = .ok (.iconst 1, 1) := by decide +kernel
theorem dL_law_535 : decode cL_law 535 = .ok (.iadd, 1) := by decide +kernel
theorem dL_law_536 : decode cL_law 536 = .ok (.iaload, 1) := by decide +kernel
theorem dL_law_537 : decode cL_law 537 = .ok (.aload_n 0, 1) := by decide +kernel
theorem dL_law_538 : decode cL_law 538 = .ok (.iload_n 3, 1) := by decide +kernel
theorem dL_law_539 : decode cL_law 539 = .ok (.iconst 2, 1) := by decide +kernel
theorem dL_law_540 : decode cL_law 540 = .ok (.iadd, 1) := by decide +kernel
theorem dL_law_541 : decode cL_law 541 = .ok (.iaload, 1) := by decide +kernel
theorem dL_law_542 : decode cL_law 542 = .ok (.i2l, 1) := by decide +kernel
theorem dL_law_543 : decode cL_law 543 = .ok (.bipush 32, 2) := by decide +kernel
theorem dL_law_545 : decode cL_law 545 = .ok (.lshl, 1) := by decide +kernel
theorem dL_law_546 : decode cL_law 546 = .ok (.aload_n 0, 1) := by decide +kernel
theorem dL_law_547 : decode cL_law 547 = .ok (.iload_n 3, 1) := by decide +kernel
theorem dL_law_548 : decode cL_law 548 = .ok (.iconst 3, 1) := by decide +kernel
theorem dL_law_549 : decode cL_law 549 = .ok (.iadd, 1) := by decide +kernel
theorem dL_law_550 : decode cL_law 550 = .ok (.iaload, 1) := by decide +kernel
theorem dL_law_551 : decode cL_law 551 = .ok (.i2l, 1) := by decide +kernel
theorem dL_law_552 : decode cL_law 552 = .ok (.ldc2_w 31, 3) := by decide +kernel
theorem dL_law_555 : decode cL_law 555 = .ok (.land, 1) := by decide +kernel
theorem dL_law_556 : decode cL_law 556 = .ok (.lor, 1) := by decide +kernel
theorem dL_law_557 : decode cL_law 557 = .ok (.invokevirtual 80, 3) := by decide +kernel
theorem dL_law_560 : decode cL_law 560 = .ok (.aload_n 2, 1) := by decide +kernel
theorem dL_law_561 : decode cL_law 561 = .ok (.aload_n 0, 1) := by decide +kernel
theorem dL_law_562 : decode cL_law 562 = .ok (.iload_n 3, 1) := by decide +kernel
theorem dL_law_563 : decode cL_law 563 = .ok (.iconst 1, 1) := by decide +kernel
theorem dL_law_564 : decode cL_law 564 = .ok (.iadd, 1) := by decide +kernel
theorem dL_law_565 : decode cL_law 565 = .ok (.iaload, 1) := by decide +kernel
theorem dL_law_566 : decode cL_law 566 = .ok (.aload_n 0, 1) := by decide +kernel
theorem dL_law_567 : decode cL_law 567 = .ok (.iload_n 3, 1) := by decide +kernel
theorem dL_law_568 : decode cL_law 568 = .ok (.iconst 2, 1) := by decide +kernel
theorem dL_law_569 : decode cL_law 569 = .ok (.iadd, 1) := by decide +kernel
theorem dL_law_570 : decode cL_law 570 = .ok (.iaload, 1) := by decide +kernel
theorem dL_law_571 : decode cL_law 571 = .ok (.i2l, 1) := by decide +kernel
theorem dL_law_572 : decode cL_law 572 = .ok (.bipush 32, 2) := by decide +kernel
theorem dL_law_574 : decode cL_law 574 = .ok (.lshl, 1) := by decide +kernel
theorem dL_law_575 : decode cL_law 575 = .ok (.aload_n 0, 1) := by decide +kernel
theorem dL_law_576 : decode cL_law 576 = .ok (.iload_n 3, 1) := by decide +kernel
theorem dL_law_577 : decode cL_law 577 = .ok (.iconst 3, 1) := by decide +kernel
theorem dL_law_578 : decode cL_law 578 = .ok (.iadd, 1) := by decide +kernel
theorem dL_law_579 : decode cL_law 579 = .ok (.iaload, 1) := by decide +kernel
theorem dL_law_580 : decode cL_law 580 = .ok (.i2l, 1) := by decide +kernel
theorem dL_law_581 : decode cL_law 581 = .ok (.ldc2_w 31, 3) := by decide +kernel
theorem dL_law_584 : decode cL_law 584 = .ok (.land, 1) := by decide +kernel
theorem dL_law_585 : decode cL_law 585 = .ok (.lor, 1) := by decide +kernel
theorem dL_law_586 : decode cL_law 586 = .ok (.invokevirtual 83, 3) := by decide +kernel
theorem dL_law_589 : decode cL_law 589 = .ok (.if_icmp .eq 381, 3) := by decide +kernel
theorem dL_law_592 : decode cL_law 592 = .ok (.iconst 0, 1) := by decide +kernel
theorem dL_law_593 : decode cL_law 593 = .ok (.ireturn, 1) := by decide +kernel
theorem dL_law_594 : decode cL_law 594 = .ok (.aload_n 1, 1) := by decide +kernel
theorem dL_law_595 : decode cL_law 595 = .ok (.aload_n 0, 1) := by decide +kernel
theorem dL_law_596 : decode cL_law 596 = .ok (.iload_n 3, 1) := by decide +kernel
theorem dL_law_597 : decode cL_law 597 = .ok (.iconst 1, 1) := by decide +kernel
theorem dL_law_598 : decode cL_law 598 = .ok (.iadd, 1) := by decide +kernel
theorem dL_law_599 : decode cL_law 599 = .ok (.iaload, 1) := by decide +kernel
theorem dL_law_600 : decode cL_law 600 = .ok (.aload_n 0, 1) := by decide +kernel
theorem dL_law_601 : decode cL_law 601 = .ok (.iload_n 3, 1) := by decide +kernel
theorem dL_law_602 : decode cL_law 602 = .ok (.iconst 2, 1) := by decide +kernel
theorem dL_law_603 : decode cL_law 603 = .ok (.iadd, 1) := by decide +kernel
theorem dL_law_604 : decode cL_law 604 = .ok (.iaload, 1) := by decide +kernel
theorem dL_law_605 : decode cL_law 605 = .ok (.aload_n 0, 1) := by decide +kernel
theorem dL_law_606 : decode cL_law 606 = .ok (.iload_n 3, 1) := by decide +kernel
theorem dL_law_607 : decode cL_law 607 = .ok (.iconst 3, 1) := by decide +kernel
theorem dL_law_608 : decode cL_law 608 = .ok (.iadd, 1) := by decide +kernel
theorem dL_law_609 : decode cL_law 609 = .ok (.iaload, 1) := by decide +kernel
theorem dL_law_610 : decode cL_law 610 = .ok (.invokevirtual 84, 3) := by decide +kernel
theorem dL_law_613 : decode cL_law 613 = .ok (.aload_n 2, 1) := by decide +kernel
theorem dL_law_614 : decode cL_law 614 = .ok (.aload_n 0, 1) := by decide +kernel
theorem dL_law_615 : decode cL_law 615 = .ok (.iload_n 3, 1) := by decide +kernel
theorem dL_law_616 : decode cL_law 616 = .ok (.iconst 1, 1) := by decide +kernel
theorem dL_law_617 : decode cL_law 617 = .ok (.iadd, 1) := by decide +kernel
theorem dL_law_618 : decode cL_law 618 = .ok (.iaload, 1) := by decide +kernel
theorem dL_law_619 : decode cL_law 619 = .ok (.aload_n 0, 1) := by decide +kernel
theorem dL_law_620 : decode cL_law 620 = .ok (.iload_n 3, 1) := by decide +kernel
theorem dL_law_621 : decode cL_law 621 = .ok (.iconst 2, 1) := by decide +kernel
theorem dL_law_622 : decode cL_law 622 = .ok (.iadd, 1) := by decide +kernel
theorem dL_law_623 : decode cL_law 623 = .ok (.iaload, 1) := by decide +kernel
theorem dL_law_624 : decode cL_law 624 = .ok (.aload_n 0, 1) := by decide +kernel
theorem dL_law_625 : decode cL_law 625 = .ok (.iload_n 3, 1) := by decide +kernel
theorem dL_law_626 : decode cL_law 626 = .ok (.iconst 3, 1) := by decide +kernel
theorem dL_law_627 : decode cL_law 627 = .ok (.iadd, 1) := by decide +kernel
theorem dL_law_628 : decode cL_law 628 = .ok (.iaload, 1) := by decide +kernel
theorem dL_law_629 : decode cL_law 629 = .ok (.invokevirtual 87, 3) := by decide +kernel
theorem dL_law_632 : decode cL_law 632 = .ok (.if_icmp .eq 338, 3) := by decide +kernel
theorem dL_law_635 : decode cL_law 635 = .ok (.iconst 0, 1) := by decide +kernel
theorem dL_law_636 : decode cL_law 636 = .ok (.ireturn, 1) := by decide +kernel
theorem dL_law_637 : decode cL_law 637 = .ok (.aload_n 1, 1) := by decide +kernel
theorem dL_law_638 : decode cL_law 638 = .ok (.invokevirtual 88, 3) := by decide +kernel
theorem dL_law_641 : decode cL_law 641 = .ok (.aload_n 2, 1) := by decide +kernel
theorem dL_law_642 : decode cL_law 642 = .ok (.invokevirtual 91, 3) := by decide +kernel
theorem dL_law_645 : decode cL_law 645 = .ok (.if_icmp .eq 325, 3) := by decide +kernel
theorem dL_law_648 : decode cL_law 648 = .ok (.iconst 0, 1) := by decide +kernel
theorem dL_law_649 : decode cL_law 649 = .ok (.ireturn, 1) := by decide +kernel
theorem dL_law_650 : decode cL_law 650 = .ok (.aload_n 1, 1) := by decide +kernel
theorem dL_law_651 : decode cL_law 651 = .ok (.aload_n 0, 1) := by decide +kernel
theorem dL_law_652 : decode cL_law 652 = .ok (.iload_n 3, 1) := by decide +kernel
theorem dL_law_653 : decode cL_law 653 = .ok (.iconst 1, 1) := by decide +kernel
theorem dL_law_654 : decode cL_law 654 = .ok (.iadd, 1) := by decide +kernel
theorem dL_law_655 : decode cL_law 655 = .ok (.iaload, 1) := by decide +kernel
theorem dL_law_656 : decode cL_law 656 = .ok (.invokevirtual 92, 3) := by decide +kernel
theorem dL_law_659 : decode cL_law 659 = .ok (.aload_n 2, 1) := by decide +kernel
theorem dL_law_660 : decode cL_law 660 = .ok (.aload_n 0, 1) := by decide +kernel
theorem dL_law_661 : decode cL_law 661 = .ok (.iload_n 3, 1) := by decide +kernel
theorem dL_law_662 : decode cL_law 662 = .ok (.iconst 1, 1) := by decide +kernel
theorem dL_law_663 : decode cL_law 663 = .ok (.iadd, 1) := by decide +kernel
theorem dL_law_664 : decode cL_law 664 = .ok (.iaload, 1) := by decide +kernel
theorem dL_law_665 : decode cL_law 665 = .ok (.invokevirtual 95, 3) := by decide +kernel
theorem dL_law_668 : decode cL_law 668 = .ok (.if_icmp .eq 302, 3) := by decide +kernel
theorem dL_law_671 : decode cL_law 671 = .ok (.iconst 0, 1) := by decide +kernel
theorem dL_law_672 : decode cL_law 672 = .ok (.ireturn, 1) := by decide +kernel
theorem dL_law_673 : decode cL_law 673 = .ok (.aload_n 1, 1) := by decide +kernel
theorem dL_law_674 : decode cL_law 674 = .ok (.aload_n 0, 1) := by decide +kernel
theorem dL_law_675 : decode cL_law 675 = .ok (.iload_n 3, 1) := by decide +kernel
theorem dL_law_676 : decode cL_law 676 = .ok (.iconst 1, 1) := by decide +kernel
theorem dL_law_677 : decode cL_law 677 = .ok (.iadd, 1) := by decide +kernel
theorem dL_law_678 : decode cL_law 678 = .ok (.iaload, 1) := by decide +kernel
theorem dL_law_679 : decode cL_law 679 = .ok (.aload_n 0, 1) := by decide +kernel
theorem dL_law_680 : decode cL_law 680 = .ok (.iload_n 3, 1) := by decide +kernel
theorem dL_law_681 : decode cL_law 681 = .ok (.iconst 2, 1) := by decide +kernel
theorem dL_law_682 : decode cL_law 682 = .ok (.iadd, 1) := by decide +kernel
theorem dL_law_683 : decode cL_law 683 = .ok (.iaload, 1) := by decide +kernel
theorem dL_law_684 : decode cL_law 684 = .ok (.ifCond .eq 7, 3) := by decide +kernel
theorem dL_law_687 : decode cL_law 687 = .ok (.iconst 1, 1) := by decide +kernel
theorem dL_law_688 : decode cL_law 688 = .ok (.goto 4, 3) := by decide +kernel
theorem dL_law_691 : decode cL_law 691 = .ok (.iconst 0, 1) := by decide +kernel
theorem dL_law_692 : decode cL_law 692 = .ok (.invokevirtual 96, 3) := by decide +kernel
theorem dL_law_695 : decode cL_law 695 = .ok (.aload_n 2, 1) := by decide +kernel
theorem dL_law_696 : decode cL_law 696 = .ok (.aload_n 0, 1) := by decide +kernel
theorem dL_law_697 : decode cL_law 697 = .ok (.iload_n 3, 1) := by decide +kernel
theorem dL_law_698 : decode cL_law 698 = .ok (.iconst 1, 1) := by decide +kernel
theorem dL_law_699 : decode cL_law 699 = .ok (.iadd, 1) := by decide +kernel
theorem dL_law_700 : decode cL_law 700 = .ok (.iaload, 1) := by decide +kernel
theorem dL_law_701 : decode cL_law 701 = .ok (.aload_n 0, 1) := by decide +kernel
theorem dL_law_702 : decode cL_law 702 = .ok (.iload_n 3, 1) := by decide +kernel
theorem dL_law_703 : decode cL_law 703 = .ok (.iconst 2, 1) := by decide +kernel
theorem dL_law_704 : decode cL_law 704 = .ok (.iadd, 1) := by decide +kernel
theorem dL_law_705 : decode cL_law 705 = .ok (.iaload, 1) := by decide +kernel
theorem dL_law_706 : decode cL_law 706 = .ok (.ifCond .eq 7, 3) := by decide +kernel
theorem dL_law_709 : decode cL_law 709 = .ok (.iconst 1, 1) := by decide +kernel
theorem dL_law_710 : decode cL_law 710 = .ok (.goto 4, 3) := by decide +kernel
theorem dL_law_713 : decode cL_law 713 = .ok (.iconst 0, 1) := by decide +kernel
theorem dL_law_714 : decode cL_law 714 = .ok (.invokevirtual 100, 3) := by decide +kernel
theorem dL_law_717 : decode cL_law 717 = .ok (.if_icmp .eq 253, 3) := by decide +kernel
theorem dL_law_720 : decode cL_law 720 = .ok (.iconst 0, 1) := by decide +kernel
theorem dL_law_721 : decode cL_law 721 = .ok (.ireturn, 1) := by decide +kernel
theorem dL_law_722 : decode cL_law 722 = .ok (.aload_n 1, 1) := by decide +kernel
theorem dL_law_723 : decode cL_law 723 = .ok (.aload_n 0, 1) := by decide +kernel
theorem dL_law_724 : decode cL_law 724 = .ok (.iload_n 3, 1) := by decide +kernel
theorem dL_law_725 : decode cL_law 725 = .ok (.iconst 1, 1) := by decide +kernel
theorem dL_law_726 : decode cL_law 726 = .ok (.iadd, 1) := by decide +kernel
theorem dL_law_727 : decode cL_law 727 = .ok (.iaload, 1) := by decide +kernel
theorem dL_law_728 : decode cL_law 728 = .ok (.aload_n 0, 1) := by decide +kernel
theorem dL_law_729 : decode cL_law 729 = .ok (.iload_n 3, 1) := by decide +kernel
theorem dL_law_730 : decode cL_law 730 = .ok (.iconst 2, 1) := by decide +kernel
theorem dL_law_731 : decode cL_law 731 = .ok (.iadd, 1) := by decide +kernel
theorem dL_law_732 : decode cL_law 732 = .ok (.iaload, 1) := by decide +kernel
theorem dL_law_733 : decode cL_law 733 = .ok (.aload_n 0, 1) := by decide +kernel
theorem dL_law_734 : decode cL_law 734 = .ok (.iload_n 3, 1) := by decide +kernel
theorem dL_law_735 : decode cL_law 735 = .ok (.iconst 3, 1) := by decide +kernel
theorem dL_law_736 : decode cL_law 736 = .ok (.iadd, 1) := by decide +kernel
theorem dL_law_737 : decode cL_law 737 = .ok (.iaload, 1) := by decide +kernel
theorem dL_law_738 : decode cL_law 738 = .ok (.invokevirtual 101, 3) := by decide +kernel
theorem dL_law_741 : decode cL_law 741 = .ok (.aload_n 2, 1) := by decide +kernel
theorem dL_law_742 : decode cL_law 742 = .ok (.aload_n 0, 1) := by decide +kernel
theorem dL_law_743 : decode cL_law 743 = .ok (.iload_n 3, 1) := by decide +kernel
theorem dL_law_744 : decode cL_law 744 = .ok (.iconst 1, 1) := by decide +kernel
theorem dL_law_745 : decode cL_law 745 = .ok (.iadd, 1) := by decide +kernel
theorem dL_law_746 : decode cL_law 746 = .ok (.iaload, 1) := by decide +kernel
theorem dL_law_747 : decode cL_law 747 = .ok (.aload_n 0, 1) := by decide +kernel
theorem dL_law_748 : decode cL_law 748 = .ok (.iload_n 3, 1) := by decide +kernel
theorem dL_law_749 : decode cL_law 749 = .ok (.iconst 2, 1) := by decide +kernel
theorem dL_law_750 : decode cL_law 750 = .ok (.iadd, 1) := by decide +kernel
theorem dL_law_751 : decode cL_law 751 = .ok (.iaload, 1) := by decide +kernel
theorem dL_law_752 : decode cL_law 752 = .ok (.aload_n 0, 1) := by decide +kernel
theorem dL_law_753 : decode cL_law 753 = .ok (.iload_n 3, 1) := by decide +kernel
theorem dL_law_754 : decode cL_law 754 = .ok (.iconst 3, 1) := by decide +kernel
theorem dL_law_755 : decode cL_law 755 = .ok (.iadd, 1) := by decide +kernel
theorem dL_law_756 : decode cL_law 756 = .ok (.iaload, 1) := by decide +kernel
theorem dL_law_757 : decode cL_law 757 = .ok (.invokevirtual 104, 3) := by decide +kernel
theorem dL_law_760 : decode cL_law 760 = .ok (.if_icmp .eq 210, 3) := by decide +kernel
theorem dL_law_763 : decode cL_law 763 = .ok (.iconst 0, 1) := by decide +kernel
theorem dL_law_764 : decode cL_law 764 = .ok (.ireturn, 1) := by decide +kernel
theorem dL_law_765 : decode cL_law 765 = .ok (.aload_n 1, 1) := by decide +kernel
theorem dL_law_766 : decode cL_law 766 = .ok (.aload_n 0, 1) := by decide +kernel
theorem dL_law_767 : decode cL_law 767 = .ok (.iload_n 3, 1) := by decide +kernel
theorem dL_law_768 : decode cL_law 768 = .ok (.iconst 1, 1) := by decide +kernel
theorem dL_law_769 : decode cL_law 769 = .ok (.iadd, 1) := by decide +kernel
theorem dL_law_770 : decode cL_law 770 = .ok (.iaload, 1) := by decide +kernel
theorem dL_law_771 : decode cL_law 771 = .ok (.aload_n 0, 1) := by decide +kernel
theorem dL_law_772 : decode cL_law 772 = .ok (.iload_n 3, 1) := by decide +kernel
theorem dL_law_773 : decode cL_law 773 = .ok (.iconst 2, 1) := by decide +kernel
theorem dL_law_774 : decode cL_law 774 = .ok (.iadd, 1) := by decide +kernel
theorem dL_law_775 : decode cL_law 775 = .ok (.iaload, 1) := by decide +kernel
theorem dL_law_776 : decode cL_law 776 = .ok (.aload_n 0, 1) := by decide +kernel
theorem dL_law_777 : decode cL_law 777 = .ok (.iload_n 3, 1) := by decide +kernel
theorem dL_law_778 : decode cL_law 778 = .ok (.iconst 3, 1) := by decide +kernel
theorem dL_law_779 : decode cL_law 779 = .ok (.iadd, 1) := by decide +kernel
theorem dL_law_780 : decode cL_law 780 = .ok (.iaload, 1) := by decide +kernel
theorem dL_law_781 : decode cL_law 781 = .ok (.ifCond .eq 7, 3) := by decide +kernel
theorem dL_law_784 : decode cL_law 784 = .ok (.iconst 1, 1) := by decide +kernel
theorem dL_law_785 : decode cL_law 785 = .ok (.goto 4, 3) := by decide +kernel
theorem dL_law_788 : decode cL_law 788 = .ok (.iconst 0, 1) := by decide +kernel
theorem dL_law_789 : decode cL_law 789 = .ok (.invokevirtual 105, 3) := by decide +kernel
theorem dL_law_792 : decode cL_law 792 = .ok (.aload_n 2, 1) := by decide +kernel
theorem dL_law_793 : decode cL_law 793 = .ok (.aload_n 0, 1) := by decide +kernel
theorem dL_law_794 : decode cL_law 794 = .ok (.iload_n 3, 1) := by decide +kernel
theorem dL_law_795 : decode cL_law 795 = .ok (.iconst 1, 1) := by decide +kernel
theorem dL_law_796 : decode cL_law 796 = .ok (.iadd, 1) := by decide +kernel
theorem dL_law_797 : decode cL_law 797 = .ok (.iaload, 1) := by decide +kernel
theorem dL_law_798 : decode cL_law 798 = .ok (.aload_n 0, 1) := by decide +kernel
theorem dL_law_799 : decode cL_law 799 = .ok (.iload_n 3, 1) := by decide +kernel
theorem dL_law_800 : decode cL_law 800 = .ok (.iconst 2, 1) := by decide +kernel
theorem dL_law_801 : decode cL_law 801 = .ok (.iadd, 1) := by decide +kernel
theorem dL_law_802 : decode cL_law 802 = .ok (.iaload, 1) := by decide +kernel
theorem dL_law_803 : decode cL_law 803 = .ok (.aload_n 0, 1) := by decide +kernel
theorem dL_law_804 : decode cL_law 804 = .ok (.iload_n 3, 1) := by decide +kernel
theorem dL_law_805 : decode cL_law 805 = .ok (.iconst 3, 1) := by decide +kernel
theorem dL_law_806 : decode cL_law 806 = .ok (.iadd, 1) := by decide +kernel
theorem dL_law_807 : decode cL_law 807 = .ok (.iaload, 1) := by decide +kernel
theorem dL_law_808 : decode cL_law 808 = .ok (.ifCond .eq 7, 3) := by decide +kernel
theorem dL_law_811 : decode cL_law 811 = .ok (.iconst 1, 1) := by decide +kernel
theorem dL_law_812 : decode cL_law 812 = .ok (.goto 4, 3) := by decide +kernel
theorem dL_law_815 : decode cL_law 815 = .ok (.iconst 0, 1) := by decide +kernel
theorem dL_law_816 : decode cL_law 816 = .ok (.invokevirtual 109, 3) := by decide +kernel
theorem dL_law_819 : decode cL_law 819 = .ok (.if_icmp .eq 151, 3) := by decide +kernel
theorem dL_law_822 : decode cL_law 822 = .ok (.iconst 0, 1) := by decide +kernel
theorem dL_law_823 : decode cL_law 823 = .ok (.ireturn, 1) := by decide +kernel
theorem dL_law_824 : decode cL_law 824 = .ok (.aload_n 1, 1) := by decide +kernel
theorem dL_law_825 : decode cL_law 825 = .ok (.aload_n 0, 1) := by decide +kernel
theorem dL_law_826 : decode cL_law 826 = .ok (.iload_n 3, 1) := by decide +kernel
theorem dL_law_827 : decode cL_law 827 = .ok (.iconst 1, 1) := by decide +kernel
theorem dL_law_828 : decode cL_law 828 = .ok (.iadd, 1) := by decide +kernel
theorem dL_law_829 : decode cL_law 829 = .ok (.iaload, 1) := by decide +kernel
theorem dL_law_830 : decode cL_law 830 = .ok (.i2l, 1) := by decide +kernel
theorem dL_law_831 : decode cL_law 831 = .ok (.bipush 32, 2) := by decide +kernel
theorem dL_law_833 : decode cL_law 833 = .ok (.lshl, 1) := by decide +kernel
theorem dL_law_834 : decode cL_law 834 = .ok (.aload_n 0, 1) := by decide +kernel
theorem dL_law_835 : decode cL_law 835 = .ok (.iload_n 3, 1) := by decide +kernel
theorem dL_law_836 : decode cL_law 836 = .ok (.iconst 2, 1) := by decide +kernel
theorem dL_law_837 : decode cL_law 837 = .ok (.iadd, 1) := by decide +kernel
theorem dL_law_838 : decode cL_law 838 = .ok (.iaload, 1) := by decide +kernel
theorem dL_law_839 : decode cL_law 839 = .ok (.i2l, 1) := by decide +kernel
theorem dL_law_840 : decode cL_law 840 = .ok (.ldc2_w 31, 3) := by decide +kernel
theorem dL_law_843 : decode cL_law 843 = .ok (.land, 1) := by decide +kernel
theorem dL_law_844 : decode cL_law 844 = .ok (.lor, 1) := by decide +kernel
theorem dL_law_845 : decode cL_law 845 = .ok (.invokevirtual 110, 3) := by decide +kernel
theorem dL_law_848 : decode cL_law 848 = .ok (.aload_n 2, 1) := by decide +kernel
theorem dL_law_849 : decode cL_law 849 = .ok (.aload_n 0, 1) := by decide +kernel
theorem dL_law_850 : decode cL_law 850 = .ok (.iload_n 3, 1) := by decide +kernel
theorem dL_law_851 : decode cL_law 851 = .ok (.iconst 1, 1) := by decide +kernel
theorem dL_law_852 : decode cL_law 852 = .ok (.iadd, 1) := by decide +kernel
theorem dL_law_853 : decode cL_law 853 = .ok (.iaload, 1) := by decide +kernel
theorem dL_law_854 : decode cL_law 854 = .ok (.i2l, 1) := by decide +kernel
theorem dL_law_855 : decode cL_law 855 = .ok (.bipush 32, 2) := by decide +kernel
theorem dL_law_857 : decode cL_law 857 = .ok (.lshl, 1) := by decide +kernel
theorem dL_law_858 : decode cL_law 858 = .ok (.aload_n 0, 1) := by decide +kernel
theorem dL_law_859 : decode cL_law 859 = .ok (.iload_n 3, 1) := by decide +kernel
theorem dL_law_860 : decode cL_law 860 = .ok (.iconst 2, 1) := by decide +kernel
theorem dL_law_861 : decode cL_law 861 = .ok (.iadd, 1) := by decide +kernel
theorem dL_law_862 : decode cL_law 862 = .ok (.iaload, 1) := by decide +kernel
theorem dL_law_863 : decode cL_law 863 = .ok (.i2l, 1) := by decide +kernel
theorem dL_law_864 : decode cL_law 864 = .ok (.ldc2_w 31, 3) := by decide +kernel
theorem dL_law_867 : decode cL_law 867 = .ok (.land, 1) := by decide +kernel
theorem dL_law_868 : decode cL_law 868 = .ok (.lor, 1) := by decide +kernel
theorem dL_law_869 : decode cL_law 869 = .ok (.invokevirtual 114, 3) := by decide +kernel
theorem dL_law_872 : decode cL_law 872 = .ok (.lcmp, 1) := by decide +kernel
theorem dL_law_873 : decode cL_law 873 = .ok (.ifCond .eq 97, 3) := by decide +kernel
theorem dL_law_876 : decode cL_law 876 = .ok (.iconst 0, 1) := by decide +kernel
theorem dL_law_877 : decode cL_law 877 = .ok (.ireturn, 1) := by decide +kernel
theorem dL_law_878 : decode cL_law 878 = .ok (.aload_n 1, 1) := by decide +kernel
theorem dL_law_879 : decode cL_law 879 = .ok (.aload_n 0, 1) := by decide +kernel
theorem dL_law_880 : decode cL_law 880 = .ok (.iload_n 3, 1) := by decide +kernel
theorem dL_law_881 : decode cL_law 881 = .ok (.iconst 1, 1) := by decide +kernel
theorem dL_law_882 : decode cL_law 882 = .ok (.iadd, 1) := by decide +kernel
theorem dL_law_883 : decode cL_law 883 = .ok (.iaload, 1) := by decide +kernel
theorem dL_law_884 : decode cL_law 884 = .ok (.invokevirtual 115, 3) := by decide +kernel
theorem dL_law_887 : decode cL_law 887 = .ok (.aload_n 2, 1) := by decide +kernel
theorem dL_law_888 : decode cL_law 888 = .ok (.aload_n 0, 1) := by decide +kernel
theorem dL_law_889 : decode cL_law 889 = .ok (.iload_n 3, 1) := by decide +kernel
theorem dL_law_890 : decode cL_law 890 = .ok (.iconst 1, 1) := by decide +kernel
theorem dL_law_891 : decode cL_law 891 = .ok (.iadd, 1) := by decide +kernel
theorem dL_law_892 : decode cL_law 892 = .ok (.iaload, 1) := by decide +kernel
theorem dL_law_893 : decode cL_law 893 = .ok (.invokevirtual 118, 3) := by decide +kernel
theorem dL_law_896 : decode cL_law 896 = .ok (.if_icmp .eq 74, 3) := by decide +kernel
theorem dL_law_899 : decode cL_law 899 = .ok (.iconst 0, 1) := by decide +kernel
theorem dL_law_900 : decode cL_law 900 = .ok (.ireturn, 1) := by decide +kernel
theorem dL_law_901 : decode cL_law 901 = .ok (.aload_n 1, 1) := by decide +kernel
theorem dL_law_902 : decode cL_law 902 = .ok (.aload_n 0, 1) := by decide +kernel
theorem dL_law_903 : decode cL_law 903 = .ok (.iload_n 3, 1) := by decide +kernel
theorem dL_law_904 : decode cL_law 904 = .ok (.iconst 1, 1) := by decide +kernel
theorem dL_law_905 : decode cL_law 905 = .ok (.iadd, 1) := by decide +kernel
theorem dL_law_906 : decode cL_law 906 = .ok (.iaload, 1) := by decide +kernel
theorem dL_law_907 : decode cL_law 907 = .ok (.invokevirtual 119, 3) := by decide +kernel
theorem dL_law_910 : decode cL_law 910 = .ok (.aload_n 2, 1) := by decide +kernel
theorem dL_law_911 : decode cL_law 911 = .ok (.aload_n 0, 1) := by decide +kernel
theorem dL_law_912 : decode cL_law 912 = .ok (.iload_n 3, 1) := by decide +kernel
theorem dL_law_913 : decode cL_law 913 = .ok (.iconst 1, 1) := by decide +kernel
theorem dL_law_914 : decode cL_law 914 = .ok (.iadd, 1) := by decide +kernel
theorem dL_law_915 : decode cL_law 915 = .ok (.iaload, 1) := by decide +kernel
theorem dL_law_916 : decode cL_law 916 = .ok (.invokevirtual 122, 3) := by decide +kernel
theorem dL_law_919 : decode cL_law 919 = .ok (.if_icmp .eq 51, 3) := by decide +kernel
theorem dL_law_922 : decode cL_law 922 = .ok (.iconst 0, 1) := by decide +kernel
theorem dL_law_923 : decode cL_law 923 = .ok (.ireturn, 1) := by decide +kernel
theorem dL_law_924 : decode cL_law 924 = .ok (.aload_n 1, 1) := by decide +kernel
theorem dL_law_925 : decode cL_law 925 = .ok (.aload_n 0, 1) := by decide +kernel
theorem dL_law_926 : decode cL_law 926 = .ok (.iload_n 3, 1) := by decide +kernel
theorem dL_law_927 : decode cL_law 927 = .ok (.iconst 1, 1) := by decide +kernel
theorem dL_law_928 : decode cL_law 928 = .ok (.iadd, 1) := by decide +kernel
theorem dL_law_929 : decode cL_law 929 = .ok (.iaload, 1) := by decide +kernel
theorem dL_law_930 : decode cL_law 930 = .ok (.invokevirtual 123, 3) := by decide +kernel
theorem dL_law_933 : decode cL_law 933 = .ok (.aload_n 2, 1) := by decide +kernel
theorem dL_law_934 : decode cL_law 934 = .ok (.aload_n 0, 1) := by decide +kernel
theorem dL_law_935 : decode cL_law 935 = .ok (.iload_n 3, 1) := by decide +kernel
theorem dL_law_936 : decode cL_law 936 = .ok (.iconst 1, 1) := by decide +kernel
theorem dL_law_937 : decode cL_law 937 = .ok (.iadd, 1) := by decide +kernel
theorem dL_law_938 : decode cL_law 938 = .ok (.iaload, 1) := by decide +kernel
theorem dL_law_939 : decode cL_law 939 = .ok (.invokevirtual 126, 3) := by decide +kernel
theorem dL_law_942 : decode cL_law 942 = .ok (.if_icmp .eq 28, 3) := by decide +kernel
theorem dL_law_945 : decode cL_law 945 = .ok (.iconst 0, 1) := by decide +kernel
theorem dL_law_946 : decode cL_law 946 = .ok (.ireturn, 1) := by decide +kernel
theorem dL_law_947 : decode cL_law 947 = .ok (.aload_n 1, 1) := by decide +kernel
theorem dL_law_948 : decode cL_law 948 = .ok (.aload_n 0, 1) := by decide +kernel
theorem dL_law_949 : decode cL_law 949 = .ok (.iload_n 3, 1) := by decide +kernel
theorem dL_law_950 : decode cL_law 950 = .ok (.iconst 1, 1) := by decide +kernel
theorem dL_law_951 : decode cL_law 951 = .ok (.iadd, 1) := by decide +kernel
theorem dL_law_952 : decode cL_law 952 = .ok (.iaload, 1) := by decide +kernel
theorem dL_law_953 : decode cL_law 953 = .ok (.invokevirtual 127, 3) := by decide +kernel
theorem dL_law_956 : decode cL_law 956 = .ok (.aload_n 2, 1) := by decide +kernel
theorem dL_law_957 : decode cL_law 957 = .ok (.aload_n 0, 1) := by decide +kernel
theorem dL_law_958 : decode cL_law 958 = .ok (.iload_n 3, 1) := by decide +kernel
theorem dL_law_959 : decode cL_law 959 = .ok (.iconst 1, 1) := by decide +kernel
theorem dL_law_960 : decode cL_law 960 = .ok (.iadd, 1) := by decide +kernel
theorem dL_law_961 : decode cL_law 961 = .ok (.iaload, 1) := by decide +kernel
theorem dL_law_962 : decode cL_law 962 = .ok (.invokevirtual 130, 3) := by decide +kernel
theorem dL_law_965 : decode cL_law 965 = .ok (.if_icmp .eq 5, 3) := by decide +kernel
theorem dL_law_968 : decode cL_law 968 = .ok (.iconst 0, 1) := by decide +kernel
theorem dL_law_969 : decode cL_law 969 = .ok (.ireturn, 1) := by decide +kernel
theorem dL_law_970 : decode cL_law 970 = .ok (.iinc 3 4, 3) := by decide +kernel
theorem dL_law_973 : decode cL_law 973 = .ok (.goto (-955), 3) := by decide +kernel
theorem dL_law_976 : decode cL_law 976 = .ok (.iconst 1, 1) := by decide +kernel
theorem dL_law_977 : decode cL_law 977 = .ok (.ireturn, 1) := by decide +kernel
end
section
set_option maxRecDepth 20000 in
theorem t1_0 : (.initialized RL : Cond) ∈ TT := tb1 0 (by decide +kernel) rfl
set_option maxRecDepth 20000 in
theorem t1_1 : (.initialized RX9 : Cond) ∈ TT := tb1 1 (by decide +kernel) rfl
set_option maxRecDepth 20000 in
theorem t1_2 : (.initialized RX3 : Cond) ∈ TT := tb1 2 (by decide +kernel) rfl
set_option maxRecDepth 20000 in
theorem t1_3 : (.initialized RX1 : Cond) ∈ TT := tb1 3 (by decide +kernel) rfl
set_option maxRecDepth 20000 in
theorem t1_4 : (.initialized RX2 : Cond) ∈ TT := tb1 4 (by decide +kernel) rfl
set_option maxRecDepth 20000 in
theorem t1_5 : (.initialized RX6 : Cond) ∈ TT := tb1 5 (by decide +kernel) rfl
set_option maxRecDepth 20000 in
theorem t1_6 : (.initialized RJ7 : Cond) ∈ TT := tb1 6 (by decide +kernel) rfl
set_option maxRecDepth 20000 in
theorem t1_7 : (.initialized RX7 : Cond) ∈ TT := tb1 7 (by decide +kernel) rfl
set_option maxRecDepth 20000 in
theorem t1_8 : (.initialized RX8 : Cond) ∈ TT := tb1 8 (by decide +kernel) rfl
set_option maxRecDepth 20000 in
theorem t1_9 : (.initialized RX0 : Cond) ∈ TT := tb1 9 (by decide +kernel) rfl
set_option maxRecDepth 20000 in
theorem t1_10 : (.initialized RX4 : Cond) ∈ TT := tb1 10 (by decide +kernel) rfl
set_option maxRecDepth 20000 in
theorem t1_11 : (.initialized RX5 : Cond) ∈ TT := tb1 11 (by decide +kernel) rfl
set_option maxRecDepth 20000 in
theorem t1_12 : (.initialized RX10 : Cond) ∈ TT := tb1 12 (by decide +kernel) rfl
set_option maxRecDepth 20000 in
theorem t1_13 : (.initialized RJ9 : Cond) ∈ TT := tb1 13 (by decide +kernel) rfl
set_option maxRecDepth 20000 in
theorem t1_14 : (.initialized RJ10 : Cond) ∈ TT := tb1 14 (by decide +kernel) rfl
set_option maxRecDepth 20000 in
theorem t1_15 : (.classLink RL 7 RX9 : Cond) ∈ TT := tb1 15 (by decide +kernel) rfl
set_option maxRecDepth 20000 in
theorem t1_16 : (.instantiable RX9 14 : Cond) ∈ TT := tb1 16 (by decide +kernel) rfl
set_option maxRecDepth 20000 in
theorem t1_17 : (.methodLink RL 9 yX9_init : Cond) ∈ TT := tb1 17 (by decide +kernel) rfl
set_option maxRecDepth 20000 in
theorem t1_18 : (.instanceMethod yX9_init : Cond) ∈ TT := tb1 18 (by decide +kernel) rfl
set_option maxRecDepth 20000 in
theorem t1_19 : (.code yX9_init cX9_init 1 none : Cond) ∈ TT := tb1 19 rfl rfl
set_option maxRecDepth 20000 in
theorem t1_20 : (.methodLink RX9 3 objectInit : Cond) ∈ TT := tb1 20 (by decide +kernel) rfl
set_option maxRecDepth 20000 in
theorem t1_21 : (.instanceMethod objectInit : Cond) ∈ TT := tb1 21 (by decide +kernel) rfl
set_option maxRecDepth 20000 in
theorem t1_22 : (.code objectInit ⟨#[0xb1]⟩ 1 none : Cond) ∈ TT := tb1 22 rfl rfl
set_option maxRecDepth 20000 in
theorem t1_23 : (.classLink RX9 9 RX3 : Cond) ∈ TT := tb1 23 (by decide +kernel) rfl
set_option maxRecDepth 20000 in
theorem t1_24 : (.instantiable RX3 2 : Cond) ∈ TT := tb1 24 (by decide +kernel) rfl
set_option maxRecDepth 20000 in
theorem t1_26 : (.instanceMethod yX3_init : Cond) ∈ TT := tb1 26 (by decide +kernel) rfl
set_option maxRecDepth 20000 in
theorem t1_27 : (.code yX3_init cX3_init 1 none : Cond) ∈ TT := tb1 27 rfl rfl
set_option maxRecDepth 20000 in
theorem t1_28 : (.methodLink RX3 3 objectInit : Cond) ∈ TT := tb1 28 (by decide +kernel) rfl
set_option maxRecDepth 20000 in
theorem t1_29 : (.fieldLink RX3 9 "FanBlades$Letters" "row" "[I" : Cond) ∈ TT := tb1 29 (by decide +kernel) rfl
set_option maxRecDepth 20000 in
theorem t1_30 : (.fieldLink RX3 15 "FanBlades$Letters" "length" "I" : Cond) ∈ TT := tb1 30 (by decide +kernel) rfl
set_option maxRecDepth 20000 in
theorem t1_31 : (.laysFinal RX3 "FanBlades$Letters" "row" "[I" : Cond) ∈ TT := tb1 31 (by decide +kernel) rfl
set_option maxRecDepth 20000 in
theorem t1_33 : (.lays RX3 "FanBlades$Letters" "length" "I" : Cond) ∈ TT := tb1 33 (by decide +kernel) rfl
set_option maxRecDepth 20000 in
theorem t1_36 : (.arrayClass .int : Cond) ∈ TT := tb1 36 (by decide +kernel) rfl
set_option maxRecDepth 20000 in
theorem t1_37 : (.classLink RX9 16 RX1 : Cond) ∈ TT := tb1 37 (by decide +kernel) rfl
set_option maxRecDepth 20000 in
theorem t1_38 : (.instantiable RX1 3 : Cond) ∈ TT := tb1 38 (by decide +kernel) rfl
set_option maxRecDepth 20000 in
theorem t1_40 : (.instanceMethod yX1_init : Cond) ∈ TT := tb1 40 (by decide +kernel) rfl
set_option maxRecDepth 20000 in
theorem t1_41 : (.code yX1_init cX1_init 1 none : Cond) ∈ TT := tb1 41 rfl rfl
set_option maxRecDepth 20000 in
theorem t1_42 : (.methodLink RX1 3 objectInit : Cond) ∈ TT := tb1 42 (by decide +kernel) rfl
set_option maxRecDepth 20000 in
theorem t1_43 : (.fieldLink RX1 9 "FanBlades$Blades" "kinds" "[I" : Cond) ∈ TT := tb1 43 (by decide +kernel) rfl
set_option maxRecDepth 20000 in
theorem t1_44 : (.fieldLink RX1 15 "FanBlades$Blades" "letters" "[I" : Cond) ∈ TT := tb1 44 (by decide +kernel) rfl
set_option maxRecDepth 20000 in
theorem t1_45 : (.fieldLink RX1 30 "FanBlades$Blades" "size" "I" : Cond) ∈ TT := tb1 45 (by decide +kernel) rfl
set_option maxRecDepth 20000 in
theorem t1_46 : (.laysFinal RX1 "FanBlades$Blades" "kinds" "[I" : Cond) ∈ TT := tb1 46 (by decide +kernel) rfl
set_option maxRecDepth 20000 in
theorem t1_48 : (.laysFinal RX1 "FanBlades$Blades" "letters" "[I" : Cond) ∈ TT := tb1 48 (by decide +kernel) rfl
set_option maxRecDepth 20000 in
theorem t1_50 : (.lays RX1 "FanBlades$Blades" "size" "I" : Cond) ∈ TT := tb1 50 (by decide +kernel) rfl
set_option maxRecDepth 20000 in
theorem t1_53 : (.classLink RX9 23 RX2 : Cond) ∈ TT := tb1 53 (by decide +kernel) rfl
set_option maxRecDepth 20000 in
theorem t1_54 : (.instantiable RX2 2 : Cond) ∈ TT := tb1 54 (by decide +kernel) rfl
set_option maxRecDepth 20000 in
theorem t1_55 : (.methodLink RX9 25 yX2_init : Cond) ∈ TT := tb1 55 (by decide +kernel) rfl
set_option maxRecDepth 20000 in
theorem t1_56 : (.instanceMethod yX2_init : Cond) ∈ TT := tb1 56 (by decide +kernel) rfl
set_option maxRecDepth 20000 in
theorem t1_57 : (.code yX2_init cX2_init 2 none : Cond) ∈ TT := tb1 57 rfl rfl
set_option maxRecDepth 20000 in
theorem t1_58 : (.methodLink RX2 3 objectInit : Cond) ∈ TT := tb1 58 (by decide +kernel) rfl
set_option maxRecDepth 20000 in
theorem t1_59 : (.fieldLink RX2 15 "FanBlades$GapRow" "blades" "LFanBlades$Blades;" : Cond) ∈ TT := tb1 59 (by decide +kernel) rfl
set_option maxRecDepth 20000 in
theorem t1_60 : (.fieldLink RX2 9 "FanBlades$GapRow" "row" "[I" : Cond) ∈ TT := tb1 60 (by decide +kernel) rfl
set_option maxRecDepth 20000 in
theorem t1_61 : (.laysFinal RX2 "FanBlades$GapRow" "blades" "LFanBlades$Blades;" : Cond) ∈ TT := tb1 61 (by decide +kernel) rfl
set_option maxRecDepth 20000 in
theorem t1_63 : (.laysFinal RX2 "FanBlades$GapRow" "row" "[I" : Cond) ∈ TT := tb1 63 (by decide +kernel) rfl
set_option maxRecDepth 20000 in
theorem t1_66 : (.classLink RX9 35 RX6 : Cond) ∈ TT := tb1 66 (by decide +kernel) rfl
set_option maxRecDepth 20000 in
theorem t1_67 : (.instantiable RX6 5 : Cond) ∈ TT := tb1 67 (by decide +kernel) rfl
set_option maxRecDepth 20000 in
theorem t1_68 : (.methodLink RX9 37 yX6_init : Cond) ∈ TT := tb1 68 (by decide +kernel) rfl
set_option maxRecDepth 20000 in
theorem t1_69 : (.instanceMethod yX6_init : Cond) ∈ TT := tb1 69 (by decide +kernel) rfl
set_option maxRecDepth 20000 in
theorem t1_70 : (.code yX6_init cX6_init 2 none : Cond) ∈ TT := tb1 70 rfl rfl
set_option maxRecDepth 20000 in
theorem t1_71 : (.methodLink RX6 3 objectInit : Cond) ∈ TT := tb1 71 (by decide +kernel) rfl
set_option maxRecDepth 20000 in
theorem t1_72 : (.classLink RX6 9 "[[I" : Cond) ∈ TT := tb1 72 (by decide +kernel) rfl
set_option maxRecDepth 20000 in
theorem t1_74 : (.methodLink RX6 24 yJ7_fill_53178 : Cond) ∈ TT := tb1 74 (by decide +kernel) rfl
set_option maxRecDepth 20000 in
theorem t1_75 : (.static yJ7_fill_53178 : Cond) ∈ TT := tb1 75 (by decide +kernel) rfl
set_option maxRecDepth 20000 in
theorem t1_76 : (.code yJ7_fill_53178 cJ7_fill_53178 4 none : Cond) ∈ TT := tb1 76 rfl rfl
set_option maxRecDepth 20000 in
theorem t1_77 : (.fieldLink RX6 20 "FanBlades$View" "blades" "LFanBlades$Blades;" : Cond) ∈ TT := tb1 77 (by decide +kernel) rfl
set_option maxRecDepth 20000 in
theorem t1_78 : (.fieldLink RX6 11 "FanBlades$View" "marks" "[[I" : Cond) ∈ TT := tb1 78 (by decide +kernel) rfl
set_option maxRecDepth 20000 in
theorem t1_79 : (.fieldLink RX6 16 "FanBlades$View" "begins" "[I" : Cond) ∈ TT := tb1 79 (by decide +kernel) rfl
set_option maxRecDepth 20000 in
theorem t1_80 : (.fieldLink RX6 30 "FanBlades$View" "side" "I" : Cond) ∈ TT := tb1 80 (by decide +kernel) rfl
set_option maxRecDepth 20000 in
theorem t1_81 : (.fieldLink RX6 44 "FanBlades$View" "laid" "I" : Cond) ∈ TT := tb1 81 (by decide +kernel) rfl
set_option maxRecDepth 20000 in
theorem t1_82 : (.laysFinal RX6 "FanBlades$View" "blades" "LFanBlades$Blades;" : Cond) ∈ TT := tb1 82 (by decide +kernel) rfl
set_option maxRecDepth 20000 in
theorem t1_84 : (.laysFinal RX6 "FanBlades$View" "marks" "[[I" : Cond) ∈ TT := tb1 84 (by decide +kernel) rfl
set_option maxRecDepth 20000 in
theorem t1_86 : (.laysFinal RX6 "FanBlades$View" "begins" "[I" : Cond) ∈ TT := tb1 86 (by decide +kernel) rfl
set_option maxRecDepth 20000 in
theorem t1_88 : (.lays RX6 "FanBlades$View" "side" "I" : Cond) ∈ TT := tb1 88 (by decide +kernel) rfl
set_option maxRecDepth 20000 in
theorem t1_90 : (.lays RX6 "FanBlades$View" "laid" "I" : Cond) ∈ TT := tb1 90 (by decide +kernel) rfl
set_option maxRecDepth 20000 in
theorem t1_93 : (.classLink RX9 42 RX7 : Cond) ∈ TT := tb1 93 (by decide +kernel) rfl
set_option maxRecDepth 20000 in
theorem t1_94 : (.instantiable RX7 3 : Cond) ∈ TT := tb1 94 (by decide +kernel) rfl
set_option maxRecDepth 20000 in
theorem t1_95 : (.methodLink RX9 44 yX7_init : Cond) ∈ TT := tb1 95 (by decide +kernel) rfl
set_option maxRecDepth 20000 in
theorem t1_96 : (.instanceMethod yX7_init : Cond) ∈ TT := tb1 96 (by decide +kernel) rfl
set_option maxRecDepth 20000 in
theorem t1_97 : (.code yX7_init cX7_init 4 none : Cond) ∈ TT := tb1 97 rfl rfl
set_option maxRecDepth 20000 in
theorem t1_98 : (.methodLink RX7 3 objectInit : Cond) ∈ TT := tb1 98 (by decide +kernel) rfl
set_option maxRecDepth 20000 in
theorem t1_99 : (.fieldLink RX7 9 "FanBlades$Ways" "blades" "LFanBlades$Blades;" : Cond) ∈ TT := tb1 99 (by decide +kernel) rfl
set_option maxRecDepth 20000 in
theorem t1_100 : (.fieldLink RX7 15 "FanBlades$Ways" "way" "LFanBlades$GapRow;" : Cond) ∈ TT := tb1 100 (by decide +kernel) rfl
set_option maxRecDepth 20000 in
theorem t1_101 : (.fieldLink RX7 19 "FanBlades$Ways" "view" "LFanBlades$View;" : Cond) ∈ TT := tb1 101 (by decide +kernel) rfl
set_option maxRecDepth 20000 in
theorem t1_102 : (.laysFinal RX7 "FanBlades$Ways" "blades" "LFanBlades$Blades;" : Cond) ∈ TT := tb1 102 (by decide +kernel) rfl
set_option maxRecDepth 20000 in
theorem t1_104 : (.laysFinal RX7 "FanBlades$Ways" "way" "LFanBlades$GapRow;" : Cond) ∈ TT := tb1 104 (by decide +kernel) rfl
set_option maxRecDepth 20000 in
theorem t1_106 : (.laysFinal RX7 "FanBlades$Ways" "view" "LFanBlades$View;" : Cond) ∈ TT := tb1 106 (by decide +kernel) rfl
set_option maxRecDepth 20000 in
theorem t1_109 : (.classLink RX9 51 RX8 : Cond) ∈ TT := tb1 109 (by decide +kernel) rfl
set_option maxRecDepth 20000 in
theorem t1_110 : (.instantiable RX8 2 : Cond) ∈ TT := tb1 110 (by decide +kernel) rfl
set_option maxRecDepth 20000 in
theorem t1_112 : (.instanceMethod yX8_init : Cond) ∈ TT := tb1 112 (by decide +kernel) rfl
set_option maxRecDepth 20000 in
theorem t1_113 : (.code yX8_init cX8_init 1 none : Cond) ∈ TT := tb1 113 rfl rfl
set_option maxRecDepth 20000 in
theorem t1_114 : (.methodLink RX8 3 objectInit : Cond) ∈ TT := tb1 114 (by decide +kernel) rfl
set_option maxRecDepth 20000 in
theorem t1_115 : (.fieldLink RX8 9 "FanBlades$Word" "letters" "[I" : Cond) ∈ TT := tb1 115 (by decide +kernel) rfl
set_option maxRecDepth 20000 in
theorem t1_116 : (.fieldLink RX8 15 "FanBlades$Word" "length" "I" : Cond) ∈ TT := tb1 116 (by decide +kernel) rfl
set_option maxRecDepth 20000 in
theorem t1_117 : (.laysFinal RX8 "FanBlades$Word" "letters" "[I" : Cond) ∈ TT := tb1 117 (by decide +kernel) rfl
set_option maxRecDepth 20000 in
theorem t1_119 : (.lays RX8 "FanBlades$Word" "length" "I" : Cond) ∈ TT := tb1 119 (by decide +kernel) rfl
set_option maxRecDepth 20000 in
theorem t1_122 : (.classLink RX9 58 RX0 : Cond) ∈ TT := tb1 122 (by decide +kernel) rfl
set_option maxRecDepth 20000 in
theorem t1_123 : (.instantiable RX0 2 : Cond) ∈ TT := tb1 123 (by decide +kernel) rfl
set_option maxRecDepth 20000 in
theorem t1_125 : (.instanceMethod yX0_init : Cond) ∈ TT := tb1 125 (by decide +kernel) rfl
set_option maxRecDepth 20000 in
theorem t1_126 : (.code yX0_init cX0_init 1 none : Cond) ∈ TT := tb1 126 rfl rfl
set_option maxRecDepth 20000 in
theorem t1_127 : (.methodLink RX0 3 objectInit : Cond) ∈ TT := tb1 127 (by decide +kernel) rfl
set_option maxRecDepth 20000 in
theorem t1_128 : (.classLink RX0 9 "[[I" : Cond) ∈ TT := tb1 128 (by decide +kernel) rfl
set_option maxRecDepth 20000 in
theorem t1_129 : (.fieldLink RX0 11 "FanBlades$Acts" "rows" "[[I" : Cond) ∈ TT := tb1 129 (by decide +kernel) rfl
set_option maxRecDepth 20000 in
theorem t1_130 : (.fieldLink RX0 16 "FanBlades$Acts" "size" "I" : Cond) ∈ TT := tb1 130 (by decide +kernel) rfl
set_option maxRecDepth 20000 in
theorem t1_131 : (.laysFinal RX0 "FanBlades$Acts" "rows" "[[I" : Cond) ∈ TT := tb1 131 (by decide +kernel) rfl
set_option maxRecDepth 20000 in
theorem t1_133 : (.lays RX0 "FanBlades$Acts" "size" "I" : Cond) ∈ TT := tb1 133 (by decide +kernel) rfl
set_option maxRecDepth 20000 in
theorem t1_136 : (.classLink RX9 65 RX4 : Cond) ∈ TT := tb1 136 (by decide +kernel) rfl
set_option maxRecDepth 20000 in
theorem t1_137 : (.instantiable RX4 2 : Cond) ∈ TT := tb1 137 (by decide +kernel) rfl
set_option maxRecDepth 20000 in
theorem t1_139 : (.instanceMethod yX4_init : Cond) ∈ TT := tb1 139 (by decide +kernel) rfl
set_option maxRecDepth 20000 in
theorem t1_140 : (.code yX4_init cX4_init 1 none : Cond) ∈ TT := tb1 140 rfl rfl
set_option maxRecDepth 20000 in
theorem t1_141 : (.methodLink RX4 3 objectInit : Cond) ∈ TT := tb1 141 (by decide +kernel) rfl
set_option maxRecDepth 20000 in
theorem t1_142 : (.classLink RX4 9 "[[I" : Cond) ∈ TT := tb1 142 (by decide +kernel) rfl
set_option maxRecDepth 20000 in
theorem t1_143 : (.fieldLink RX4 11 "FanBlades$Slots" "rows" "[[I" : Cond) ∈ TT := tb1 143 (by decide +kernel) rfl
set_option maxRecDepth 20000 in
theorem t1_144 : (.fieldLink RX4 16 "FanBlades$Slots" "kept" "[Z" : Cond) ∈ TT := tb1 144 (by decide +kernel) rfl
set_option maxRecDepth 20000 in
theorem t1_145 : (.laysFinal RX4 "FanBlades$Slots" "rows" "[[I" : Cond) ∈ TT := tb1 145 (by decide +kernel) rfl
set_option maxRecDepth 20000 in
theorem t1_147 : (.laysFinal RX4 "FanBlades$Slots" "kept" "[Z" : Cond) ∈ TT := tb1 147 (by decide +kernel) rfl
set_option maxRecDepth 20000 in
theorem t1_150 : (.arrayClass .boolean : Cond) ∈ TT := tb1 150 (by decide +kernel) rfl
set_option maxRecDepth 20000 in
theorem t1_151 : (.classLink RX9 72 RX5 : Cond) ∈ TT := tb1 151 (by decide +kernel) rfl
set_option maxRecDepth 20000 in
theorem t1_152 : (.instantiable RX5 4 : Cond) ∈ TT := tb1 152 (by decide +kernel) rfl
set_option maxRecDepth 20000 in
theorem t1_154 : (.instanceMethod yX5_init : Cond) ∈ TT := tb1 154 (by decide +kernel) rfl
set_option maxRecDepth 20000 in
theorem t1_155 : (.code yX5_init cX5_init 1 none : Cond) ∈ TT := tb1 155 rfl rfl
set_option maxRecDepth 20000 in
theorem t1_156 : (.methodLink RX5 3 objectInit : Cond) ∈ TT := tb1 156 (by decide +kernel) rfl
set_option maxRecDepth 20000 in
theorem t1_157 : (.fieldLink RX5 9 "FanBlades$Spied" "places" "[I" : Cond) ∈ TT := tb1 157 (by decide +kernel) rfl
set_option maxRecDepth 20000 in
theorem t1_158 : (.fieldLink RX5 15 "FanBlades$Spied" "letters" "[I" : Cond) ∈ TT := tb1 158 (by decide +kernel) rfl
set_option maxRecDepth 20000 in
theorem t1_159 : (.fieldLink RX5 18 "FanBlades$Spied" "seen" "[Z" : Cond) ∈ TT := tb1 159 (by decide +kernel) rfl
set_option maxRecDepth 20000 in
theorem t1_160 : (.fieldLink RX5 22 "FanBlades$Spied" "size" "I" : Cond) ∈ TT := tb1 160 (by decide +kernel) rfl
set_option maxRecDepth 20000 in
theorem t1_161 : (.laysFinal RX5 "FanBlades$Spied" "places" "[I" : Cond) ∈ TT := tb1 161 (by decide +kernel) rfl
set_option maxRecDepth 20000 in
theorem t1_163 : (.laysFinal RX5 "FanBlades$Spied" "letters" "[I" : Cond) ∈ TT := tb1 163 (by decide +kernel) rfl
set_option maxRecDepth 20000 in
theorem t1_165 : (.laysFinal RX5 "FanBlades$Spied" "seen" "[Z" : Cond) ∈ TT := tb1 165 (by decide +kernel) rfl
set_option maxRecDepth 20000 in
theorem t1_167 : (.lays RX5 "FanBlades$Spied" "size" "I" : Cond) ∈ TT := tb1 167 (by decide +kernel) rfl
set_option maxRecDepth 20000 in
theorem t1_170 : (.fieldLink RX9 12 "FanBlades" "text" "LFanBlades$Letters;" : Cond) ∈ TT := tb1 170 (by decide +kernel) rfl
set_option maxRecDepth 20000 in
theorem t1_171 : (.fieldLink RX9 19 "FanBlades" "blades" "LFanBlades$Blades;" : Cond) ∈ TT := tb1 171 (by decide +kernel) rfl
set_option maxRecDepth 20000 in
theorem t1_172 : (.fieldLink RX9 28 "FanBlades" "now" "LFanBlades$GapRow;" : Cond) ∈ TT := tb1 172 (by decide +kernel) rfl
set_option maxRecDepth 20000 in
theorem t1_173 : (.fieldLink RX9 32 "FanBlades" "trial" "LFanBlades$GapRow;" : Cond) ∈ TT := tb1 173 (by decide +kernel) rfl
set_option maxRecDepth 20000 in
theorem t1_174 : (.fieldLink RX9 38 "FanBlades" "view" "LFanBlades$View;" : Cond) ∈ TT := tb1 174 (by decide +kernel) rfl
set_option maxRecDepth 20000 in
theorem t1_175 : (.fieldLink RX9 47 "FanBlades" "ways" "LFanBlades$Ways;" : Cond) ∈ TT := tb1 175 (by decide +kernel) rfl
set_option maxRecDepth 20000 in
theorem t1_176 : (.fieldLink RX9 54 "FanBlades" "told" "LFanBlades$Word;" : Cond) ∈ TT := tb1 176 (by decide +kernel) rfl
set_option maxRecDepth 20000 in
theorem t1_177 : (.fieldLink RX9 61 "FanBlades" "acts" "LFanBlades$Acts;" : Cond) ∈ TT := tb1 177 (by decide +kernel) rfl
set_option maxRecDepth 20000 in
theorem t1_178 : (.fieldLink RX9 68 "FanBlades" "slots" "LFanBlades$Slots;" : Cond) ∈ TT := tb1 178 (by decide +kernel) rfl
set_option maxRecDepth 20000 in
theorem t1_179 : (.fieldLink RX9 75 "FanBlades" "spied" "LFanBlades$Spied;" : Cond) ∈ TT := tb1 179 (by decide +kernel) rfl
set_option maxRecDepth 20000 in
theorem t1_180 : (.fieldLink RX9 79 "FanBlades" "oneHas" "[I" : Cond) ∈ TT := tb1 180 (by decide +kernel) rfl
set_option maxRecDepth 20000 in
theorem t1_181 : (.fieldLink RX9 83 "FanBlades" "otherHas" "[I" : Cond) ∈ TT := tb1 181 (by decide +kernel) rfl
set_option maxRecDepth 20000 in
theorem t1_182 : (.fieldLink RX9 86 "FanBlades" "doings" "[I" : Cond) ∈ TT := tb1 182 (by decide +kernel) rfl
set_option maxRecDepth 20000 in
theorem t1_183 : (.fieldLink RX9 260 "FanBlades" "seedNow" "J" : Cond) ∈ TT := tb1 183 (by decide +kernel) rfl
set_option maxRecDepth 20000 in
theorem t1_184 : (.laysFinal RX9 "FanBlades" "text" "LFanBlades$Letters;" : Cond) ∈ TT := tb1 184 (by decide +kernel) rfl
set_option maxRecDepth 20000 in
theorem t1_186 : (.laysFinal RX9 "FanBlades" "blades" "LFanBlades$Blades;" : Cond) ∈ TT := tb1 186 (by decide +kernel) rfl
set_option maxRecDepth 20000 in
theorem t1_188 : (.laysFinal RX9 "FanBlades" "now" "LFanBlades$GapRow;" : Cond) ∈ TT := tb1 188 (by decide +kernel) rfl
set_option maxRecDepth 20000 in
theorem t1_190 : (.laysFinal RX9 "FanBlades" "trial" "LFanBlades$GapRow;" : Cond) ∈ TT := tb1 190 (by decide +kernel) rfl
set_option maxRecDepth 20000 in
theorem t1_192 : (.laysFinal RX9 "FanBlades" "view" "LFanBlades$View;" : Cond) ∈ TT := tb1 192 (by decide +kernel) rfl
set_option maxRecDepth 20000 in
theorem t1_194 : (.laysFinal RX9 "FanBlades" "ways" "LFanBlades$Ways;" : Cond) ∈ TT := tb1 194 (by decide +kernel) rfl
set_option maxRecDepth 20000 in
theorem t1_196 : (.laysFinal RX9 "FanBlades" "told" "LFanBlades$Word;" : Cond) ∈ TT := tb1 196 (by decide +kernel) rfl
set_option maxRecDepth 20000 in
theorem t1_198 : (.laysFinal RX9 "FanBlades" "acts" "LFanBlades$Acts;" : Cond) ∈ TT := tb1 198 (by decide +kernel) rfl
set_option maxRecDepth 20000 in
theorem t1_200 : (.laysFinal RX9 "FanBlades" "slots" "LFanBlades$Slots;" : Cond) ∈ TT := tb1 200 (by decide +kernel) rfl
set_option maxRecDepth 20000 in
theorem t1_202 : (.laysFinal RX9 "FanBlades" "spied" "LFanBlades$Spied;" : Cond) ∈ TT := tb1 202 (by decide +kernel) rfl
set_option maxRecDepth 20000 in
theorem t1_204 : (.laysFinal RX9 "FanBlades" "oneHas" "[I" : Cond) ∈ TT := tb1 204 (by decide +kernel) rfl
set_option maxRecDepth 20000 in
theorem t1_206 : (.laysFinal RX9 "FanBlades" "otherHas" "[I" : Cond) ∈ TT := tb1 206 (by decide +kernel) rfl
set_option maxRecDepth 20000 in
theorem t1_208 : (.laysFinal RX9 "FanBlades" "doings" "[I" : Cond) ∈ TT := tb1 208 (by decide +kernel) rfl
set_option maxRecDepth 20000 in
theorem t1_210 : (.lays RX9 "FanBlades" "seedNow" "J" : Cond) ∈ TT := tb1 210 (by decide +kernel) rfl
set_option maxRecDepth 20000 in
theorem t1_213 : (.methodLink RL 13 yX9_write : Cond) ∈ TT := tb1 213 (by decide +kernel) rfl
set_option maxRecDepth 20000 in
theorem t1_214 : (.instanceMethod yX9_write : Cond) ∈ TT := tb1 214 (by decide +kernel) rfl
set_option maxRecDepth 20000 in
theorem t1_215 : (.selects RX9 yX9_write yX9_write : Cond) ∈ TT := tb1 215 (by decide +kernel) rfl
set_option maxRecDepth 20000 in
theorem t1_216 : (.code yX9_write cX9_write 2 (some .int) : Cond) ∈ TT := tb1 216 rfl rfl
set_option maxRecDepth 20000 in
theorem t1_217 : (.methodLink RX9 89 yX3_append : Cond) ∈ TT := tb1 217 (by decide +kernel) rfl
set_option maxRecDepth 20000 in
theorem t1_218 : (.instanceMethod yX3_append : Cond) ∈ TT := tb1 218 (by decide +kernel) rfl
set_option maxRecDepth 20000 in
theorem t1_219 : (.selects RX3 yX3_append yX3_append : Cond) ∈ TT := tb1 219 (by decide +kernel) rfl
set_option maxRecDepth 20000 in
theorem t1_220 : (.code yX3_append cX3_append 2 (some .boolean) : Cond) ∈ TT := tb1 220 rfl rfl
set_option maxRecDepth 20000 in
theorem t1_221 : (.methodLink RX9 93 yX3_length : Cond) ∈ TT := tb1 221 (by decide +kernel) rfl
set_option maxRecDepth 20000 in
theorem t1_222 : (.instanceMethod yX3_length : Cond) ∈ TT := tb1 222 (by decide +kernel) rfl
set_option maxRecDepth 20000 in
theorem t1_223 : (.selects RX3 yX3_length yX3_length : Cond) ∈ TT := tb1 223 (by decide +kernel) rfl
set_option maxRecDepth 20000 in
theorem t1_224 : (.code yX3_length cX3_length 1 (some .int) : Cond) ∈ TT := tb1 224 rfl rfl
set_option maxRecDepth 20000 in
theorem t1_225 : (.methodLink RL 18 yX9_wipe : Cond) ∈ TT := tb1 225 (by decide +kernel) rfl
set_option maxRecDepth 20000 in
theorem t1_226 : (.instanceMethod yX9_wipe : Cond) ∈ TT := tb1 226 (by decide +kernel) rfl
set_option maxRecDepth 20000 in
theorem t1_227 : (.selects RX9 yX9_wipe yX9_wipe : Cond) ∈ TT := tb1 227 (by decide +kernel) rfl
set_option maxRecDepth 20000 in
theorem t1_228 : (.code yX9_wipe cX9_wipe 2 (some .int) : Cond) ∈ TT := tb1 228 rfl rfl
set_option maxRecDepth 20000 in
theorem t1_229 : (.methodLink RX9 97 yX3_clear : Cond) ∈ TT := tb1 229 (by decide +kernel) rfl
set_option maxRecDepth 20000 in
theorem t1_230 : (.instanceMethod yX3_clear : Cond) ∈ TT := tb1 230 (by decide +kernel) rfl
set_option maxRecDepth 20000 in
theorem t1_231 : (.selects RX3 yX3_clear yX3_clear : Cond) ∈ TT := tb1 231 (by decide +kernel) rfl
set_option maxRecDepth 20000 in
theorem t1_232 : (.code yX3_clear cX3_clear 1 none : Cond) ∈ TT := tb1 232 rfl rfl
set_option maxRecDepth 20000 in
theorem t1_233 : (.methodLink RL 23 yX9_fault : Cond) ∈ TT := tb1 233 (by decide +kernel) rfl
set_option maxRecDepth 20000 in
theorem t1_234 : (.instanceMethod yX9_fault : Cond) ∈ TT := tb1 234 (by decide +kernel) rfl
set_option maxRecDepth 20000 in
theorem t1_235 : (.selects RX9 yX9_fault yX9_fault : Cond) ∈ TT := tb1 235 (by decide +kernel) rfl
set_option maxRecDepth 20000 in
theorem t1_236 : (.code yX9_fault cX9_fault 1 (some .int) : Cond) ∈ TT := tb1 236 rfl rfl
set_option maxRecDepth 20000 in
theorem t1_237 : (.methodLink RX9 100 yX3_firstFault : Cond) ∈ TT := tb1 237 (by decide +kernel) rfl
set_option maxRecDepth 20000 in
theorem t1_238 : (.instanceMethod yX3_firstFault : Cond) ∈ TT := tb1 238 (by decide +kernel) rfl
set_option maxRecDepth 20000 in
theorem t1_239 : (.selects RX3 yX3_firstFault yX3_firstFault : Cond) ∈ TT := tb1 239 (by decide +kernel) rfl
set_option maxRecDepth 20000 in
theorem t2_0 : (.code yX3_firstFault cX3_firstFault 2 (some .int) : Cond) ∈ TT := tb2 0 rfl rfl
set_option maxRecDepth 20000 in
theorem t2_1 : (.methodLink RX3 19 yX3_canStand : Cond) ∈ TT := tb2 1 (by decide +kernel) rfl
set_option maxRecDepth 20000 in
theorem t2_2 : (.static yX3_canStand : Cond) ∈ TT := tb2 2 (by decide +kernel) rfl
set_option maxRecDepth 20000 in
theorem t2_3 : (.code yX3_canStand cX3_canStand 2 (some .boolean) : Cond) ∈ TT := tb2 3 rfl rfl
set_option maxRecDepth 20000 in
theorem t2_5 : (.static yX9_isLetter : Cond) ∈ TT := tb2 5 (by decide +kernel) rfl
set_option maxRecDepth 20000 in
theorem t2_6 : (.code yX9_isLetter cX9_isLetter 1 (some .boolean) : Cond) ∈ TT := tb2 6 rfl rfl
set_option maxRecDepth 20000 in
theorem t2_7 : (.methodLink RL 27 yX9_fan : Cond) ∈ TT := tb2 7 (by decide +kernel) rfl
set_option maxRecDepth 20000 in
theorem t2_8 : (.instanceMethod yX9_fan : Cond) ∈ TT := tb2 8 (by decide +kernel) rfl
set_option maxRecDepth 20000 in
theorem t2_9 : (.selects RX9 yX9_fan yX9_fan : Cond) ∈ TT := tb2 9 (by decide +kernel) rfl
set_option maxRecDepth 20000 in
theorem t2_10 : (.code yX9_fan cX9_fan 1 (some .int) : Cond) ∈ TT := tb2 10 rfl rfl
set_option maxRecDepth 20000 in
theorem t2_11 : (.methodLink RX9 103 yX1_take : Cond) ∈ TT := tb2 11 (by decide +kernel) rfl
set_option maxRecDepth 20000 in
theorem t2_12 : (.instanceMethod yX1_take : Cond) ∈ TT := tb2 12 (by decide +kernel) rfl
set_option maxRecDepth 20000 in
theorem t2_13 : (.selects RX1 yX1_take yX1_take : Cond) ∈ TT := tb2 13 (by decide +kernel) rfl
set_option maxRecDepth 20000 in
theorem t2_14 : (.code yX1_take cX1_take 5 none : Cond) ∈ TT := tb2 14 rfl rfl
set_option maxRecDepth 20000 in
theorem t2_15 : (.methodLink RX1 18 yX3_length : Cond) ∈ TT := tb2 15 (by decide +kernel) rfl
set_option maxRecDepth 20000 in
theorem t2_16 : (.methodLink RX1 24 Lib.Math.min.name : Cond) ∈ TT := tb2 16 (by decide +kernel) rfl
set_option maxRecDepth 20000 in
theorem t2_17 : (.static Lib.Math.min.name : Cond) ∈ TT := tb2 17 (by decide +kernel) rfl
set_option maxRecDepth 20000 in
theorem t2_18 : (.code Lib.Math.min.name Lib.Math.min.code 2 (some .int) : Cond) ∈ TT := tb2 18 rfl rfl
set_option maxRecDepth 20000 in
theorem t2_19 : (.methodLink RX1 34 yX3_at : Cond) ∈ TT := tb2 19 (by decide +kernel) rfl
set_option maxRecDepth 20000 in
theorem t2_20 : (.instanceMethod yX3_at : Cond) ∈ TT := tb2 20 (by decide +kernel) rfl
set_option maxRecDepth 20000 in
theorem t2_21 : (.selects RX3 yX3_at yX3_at : Cond) ∈ TT := tb2 21 (by decide +kernel) rfl
set_option maxRecDepth 20000 in
theorem t2_22 : (.code yX3_at cX3_at 2 (some .int) : Cond) ∈ TT := tb2 22 rfl rfl
set_option maxRecDepth 20000 in
theorem t2_23 : (.methodLink RX9 107 yX2_clear : Cond) ∈ TT := tb2 23 (by decide +kernel) rfl
set_option maxRecDepth 20000 in
theorem t2_24 : (.instanceMethod yX2_clear : Cond) ∈ TT := tb2 24 (by decide +kernel) rfl
set_option maxRecDepth 20000 in
theorem t2_25 : (.selects RX2 yX2_clear yX2_clear : Cond) ∈ TT := tb2 25 (by decide +kernel) rfl
set_option maxRecDepth 20000 in
theorem t2_26 : (.code yX2_clear cX2_clear 1 none : Cond) ∈ TT := tb2 26 rfl rfl
set_option maxRecDepth 20000 in
theorem t2_27 : (.methodLink RX2 34 yJ7_fill_53178 : Cond) ∈ TT := tb2 27 (by decide +kernel) rfl
set_option maxRecDepth 20000 in
theorem t2_28 : (.methodLink RX9 108 yX0_clear : Cond) ∈ TT := tb2 28 (by decide +kernel) rfl
set_option maxRecDepth 20000 in
theorem t2_29 : (.instanceMethod yX0_clear : Cond) ∈ TT := tb2 29 (by decide +kernel) rfl
set_option maxRecDepth 20000 in
theorem t2_30 : (.selects RX0 yX0_clear yX0_clear : Cond) ∈ TT := tb2 30 (by decide +kernel) rfl
set_option maxRecDepth 20000 in
theorem t2_31 : (.code yX0_clear cX0_clear 1 none : Cond) ∈ TT := tb2 31 rfl rfl
set_option maxRecDepth 20000 in
theorem t2_32 : (.methodLink RX9 109 yX4_clear : Cond) ∈ TT := tb2 32 (by decide +kernel) rfl
set_option maxRecDepth 20000 in
theorem t2_33 : (.instanceMethod yX4_clear : Cond) ∈ TT := tb2 33 (by decide +kernel) rfl
set_option maxRecDepth 20000 in
theorem t2_34 : (.selects RX4 yX4_clear yX4_clear : Cond) ∈ TT := tb2 34 (by decide +kernel) rfl
set_option maxRecDepth 20000 in
theorem t2_35 : (.code yX4_clear cX4_clear 2 none : Cond) ∈ TT := tb2 35 rfl rfl
set_option maxRecDepth 20000 in
theorem t2_36 : (.methodLink RX9 110 yX1_size : Cond) ∈ TT := tb2 36 (by decide +kernel) rfl
set_option maxRecDepth 20000 in
theorem t2_37 : (.instanceMethod yX1_size : Cond) ∈ TT := tb2 37 (by decide +kernel) rfl
set_option maxRecDepth 20000 in
theorem t2_38 : (.selects RX1 yX1_size yX1_size : Cond) ∈ TT := tb2 38 (by decide +kernel) rfl
set_option maxRecDepth 20000 in
theorem t2_39 : (.code yX1_size cX1_size 1 (some .int) : Cond) ∈ TT := tb2 39 rfl rfl
set_option maxRecDepth 20000 in
theorem t2_40 : (.methodLink RL 33 yX9_word : Cond) ∈ TT := tb2 40 (by decide +kernel) rfl
set_option maxRecDepth 20000 in
theorem t2_41 : (.instanceMethod yX9_word : Cond) ∈ TT := tb2 41 (by decide +kernel) rfl
set_option maxRecDepth 20000 in
theorem t2_42 : (.selects RX9 yX9_word yX9_word : Cond) ∈ TT := tb2 42 (by decide +kernel) rfl
set_option maxRecDepth 20000 in
theorem t2_43 : (.code yX9_word cX9_word 5 (some .int) : Cond) ∈ TT := tb2 43 rfl rfl
set_option maxRecDepth 20000 in
theorem t2_44 : (.methodLink RX9 113 yX9_hasFigures : Cond) ∈ TT := tb2 44 (by decide +kernel) rfl
set_option maxRecDepth 20000 in
theorem t2_45 : (.static yX9_hasFigures : Cond) ∈ TT := tb2 45 (by decide +kernel) rfl
set_option maxRecDepth 20000 in
theorem t2_46 : (.code yX9_hasFigures cX9_hasFigures 3 (some .boolean) : Cond) ∈ TT := tb2 46 rfl rfl
set_option maxRecDepth 20000 in
theorem t2_47 : (.methodLink RX9 289 yX9_tenTo : Cond) ∈ TT := tb2 47 (by decide +kernel) rfl
set_option maxRecDepth 20000 in
theorem t2_48 : (.static yX9_tenTo : Cond) ∈ TT := tb2 48 (by decide +kernel) rfl
set_option maxRecDepth 20000 in
theorem t2_49 : (.code yX9_tenTo cX9_tenTo 4 (some .long) : Cond) ∈ TT := tb2 49 rfl rfl
set_option maxRecDepth 20000 in
theorem t2_50 : (.constantLong RX9 287 10 : Cond) ∈ TT := tb2 50 (by decide +kernel) rfl
set_option maxRecDepth 20000 in
theorem t2_51 : (.methodLink RX9 117 yX9_areLetters : Cond) ∈ TT := tb2 51 (by decide +kernel) rfl
set_option maxRecDepth 20000 in
theorem t2_52 : (.static yX9_areLetters : Cond) ∈ TT := tb2 52 (by decide +kernel) rfl
set_option maxRecDepth 20000 in
theorem t2_53 : (.code yX9_areLetters cX9_areLetters 6 (some .boolean) : Cond) ∈ TT := tb2 53 rfl rfl
set_option maxRecDepth 20000 in
theorem t2_54 : (.constantLong RX9 293 100 : Cond) ∈ TT := tb2 54 (by decide +kernel) rfl
set_option maxRecDepth 20000 in
theorem t2_55 : (.constantLong RX9 295 25 : Cond) ∈ TT := tb2 55 (by decide +kernel) rfl
set_option maxRecDepth 20000 in
theorem t2_56 : (.methodLink RX9 121 yX8_length : Cond) ∈ TT := tb2 56 (by decide +kernel) rfl
set_option maxRecDepth 20000 in
theorem t2_57 : (.instanceMethod yX8_length : Cond) ∈ TT := tb2 57 (by decide +kernel) rfl
set_option maxRecDepth 20000 in
theorem t2_58 : (.selects RX8 yX8_length yX8_length : Cond) ∈ TT := tb2 58 (by decide +kernel) rfl
set_option maxRecDepth 20000 in
theorem t2_59 : (.code yX8_length cX8_length 1 (some .int) : Cond) ∈ TT := tb2 59 rfl rfl
set_option maxRecDepth 20000 in
theorem t2_60 : (.methodLink RX9 122 yX8_take : Cond) ∈ TT := tb2 60 (by decide +kernel) rfl
set_option maxRecDepth 20000 in
theorem t2_61 : (.instanceMethod yX8_take : Cond) ∈ TT := tb2 61 (by decide +kernel) rfl
set_option maxRecDepth 20000 in
theorem t2_62 : (.selects RX8 yX8_take yX8_take : Cond) ∈ TT := tb2 62 (by decide +kernel) rfl
set_option maxRecDepth 20000 in
theorem t2_63 : (.code yX8_take cX8_take 7 none : Cond) ∈ TT := tb2 63 rfl rfl
set_option maxRecDepth 20000 in
theorem t2_64 : (.methodLink RX8 19 Lib.Math.min.name : Cond) ∈ TT := tb2 64 (by decide +kernel) rfl
set_option maxRecDepth 20000 in
theorem t2_65 : (.methodLink RX8 25 Lib.Math.max.name : Cond) ∈ TT := tb2 65 (by decide +kernel) rfl
set_option maxRecDepth 20000 in
theorem t2_66 : (.static Lib.Math.max.name : Cond) ∈ TT := tb2 66 (by decide +kernel) rfl
set_option maxRecDepth 20000 in
theorem t2_67 : (.code Lib.Math.max.name Lib.Math.max.code 2 (some .int) : Cond) ∈ TT := tb2 67 rfl rfl
set_option maxRecDepth 20000 in
theorem t2_68 : (.constantLong RX8 28 97 : Cond) ∈ TT := tb2 68 (by decide +kernel) rfl
set_option maxRecDepth 20000 in
theorem t2_69 : (.constantLong RX8 30 100 : Cond) ∈ TT := tb2 69 (by decide +kernel) rfl
set_option maxRecDepth 20000 in
theorem t2_70 : (.methodLink RL 38 yX9_blade : Cond) ∈ TT := tb2 70 (by decide +kernel) rfl
set_option maxRecDepth 20000 in
theorem t2_71 : (.instanceMethod yX9_blade : Cond) ∈ TT := tb2 71 (by decide +kernel) rfl
set_option maxRecDepth 20000 in
theorem t2_72 : (.selects RX9 yX9_blade yX9_blade : Cond) ∈ TT := tb2 72 (by decide +kernel) rfl
set_option maxRecDepth 20000 in
theorem t2_73 : (.code yX9_blade cX9_blade 3 (some .int) : Cond) ∈ TT := tb2 73 rfl rfl
set_option maxRecDepth 20000 in
theorem t2_74 : (.methodLink RX9 125 yX1_has : Cond) ∈ TT := tb2 74 (by decide +kernel) rfl
set_option maxRecDepth 20000 in
theorem t2_75 : (.instanceMethod yX1_has : Cond) ∈ TT := tb2 75 (by decide +kernel) rfl
set_option maxRecDepth 20000 in
theorem t2_76 : (.selects RX1 yX1_has yX1_has : Cond) ∈ TT := tb2 76 (by decide +kernel) rfl
set_option maxRecDepth 20000 in
theorem t2_77 : (.code yX1_has cX1_has 2 (some .boolean) : Cond) ∈ TT := tb2 77 rfl rfl
set_option maxRecDepth 20000 in
theorem t2_78 : (.methodLink RX9 128 yX1_kindOf : Cond) ∈ TT := tb2 78 (by decide +kernel) rfl
set_option maxRecDepth 20000 in
theorem t2_79 : (.instanceMethod yX1_kindOf : Cond) ∈ TT := tb2 79 (by decide +kernel) rfl
set_option maxRecDepth 20000 in
theorem t2_80 : (.selects RX1 yX1_kindOf yX1_kindOf : Cond) ∈ TT := tb2 80 (by decide +kernel) rfl
set_option maxRecDepth 20000 in
theorem t2_81 : (.code yX1_kindOf cX1_kindOf 2 (some .int) : Cond) ∈ TT := tb2 81 rfl rfl
set_option maxRecDepth 20000 in
theorem t2_82 : (.methodLink RX9 132 yX2_sumAhead : Cond) ∈ TT := tb2 82 (by decide +kernel) rfl
set_option maxRecDepth 20000 in
theorem t2_83 : (.instanceMethod yX2_sumAhead : Cond) ∈ TT := tb2 83 (by decide +kernel) rfl
set_option maxRecDepth 20000 in
theorem t2_84 : (.selects RX2 yX2_sumAhead yX2_sumAhead : Cond) ∈ TT := tb2 84 (by decide +kernel) rfl
set_option maxRecDepth 20000 in
theorem t2_85 : (.code yX2_sumAhead cX2_sumAhead 4 (some .int) : Cond) ∈ TT := tb2 85 rfl rfl
set_option maxRecDepth 20000 in
theorem t2_86 : (.methodLink RX9 135 yX1_widthOf : Cond) ∈ TT := tb2 86 (by decide +kernel) rfl
set_option maxRecDepth 20000 in
theorem t2_87 : (.instanceMethod yX1_widthOf : Cond) ∈ TT := tb2 87 (by decide +kernel) rfl
set_option maxRecDepth 20000 in
theorem t2_88 : (.selects RX1 yX1_widthOf yX1_widthOf : Cond) ∈ TT := tb2 88 (by decide +kernel) rfl
set_option maxRecDepth 20000 in
theorem t2_89 : (.code yX1_widthOf cX1_widthOf 2 (some .int) : Cond) ∈ TT := tb2 89 rfl rfl
set_option maxRecDepth 20000 in
theorem t2_90 : (.methodLink RX1 38 yX1_kindOf : Cond) ∈ TT := tb2 90 (by decide +kernel) rfl
set_option maxRecDepth 20000 in
theorem t2_91 : (.methodLink RX9 138 yX6_layAll : Cond) ∈ TT := tb2 91 (by decide +kernel) rfl
set_option maxRecDepth 20000 in
theorem t2_92 : (.instanceMethod yX6_layAll : Cond) ∈ TT := tb2 92 (by decide +kernel) rfl
set_option maxRecDepth 20000 in
theorem t2_93 : (.selects RX6 yX6_layAll yX6_layAll : Cond) ∈ TT := tb2 93 (by decide +kernel) rfl
set_option maxRecDepth 20000 in
theorem t2_94 : (.code yX6_layAll cX6_layAll 3 none : Cond) ∈ TT := tb2 94 rfl rfl
set_option maxRecDepth 20000 in
theorem t2_95 : (.methodLink RX6 34 yX6_layFrom : Cond) ∈ TT := tb2 95 (by decide +kernel) rfl
set_option maxRecDepth 20000 in
theorem t2_96 : (.instanceMethod yX6_layFrom : Cond) ∈ TT := tb2 96 (by decide +kernel) rfl
set_option maxRecDepth 20000 in
theorem t2_97 : (.selects RX6 yX6_layFrom yX6_layFrom : Cond) ∈ TT := tb2 97 (by decide +kernel) rfl
set_option maxRecDepth 20000 in
theorem t2_98 : (.code yX6_layFrom cX6_layFrom 5 none : Cond) ∈ TT := tb2 98 rfl rfl
set_option maxRecDepth 20000 in
theorem t2_99 : (.methodLink RX6 38 yX1_size : Cond) ∈ TT := tb2 99 (by decide +kernel) rfl
set_option maxRecDepth 20000 in
theorem t2_100 : (.methodLink RX6 47 Lib.Math.max.name : Cond) ∈ TT := tb2 100 (by decide +kernel) rfl
set_option maxRecDepth 20000 in
theorem t2_101 : (.methodLink RX6 53 yX2_at : Cond) ∈ TT := tb2 101 (by decide +kernel) rfl
set_option maxRecDepth 20000 in
theorem t2_102 : (.instanceMethod yX2_at : Cond) ∈ TT := tb2 102 (by decide +kernel) rfl
set_option maxRecDepth 20000 in
theorem t2_103 : (.selects RX2 yX2_at yX2_at : Cond) ∈ TT := tb2 103 (by decide +kernel) rfl
set_option maxRecDepth 20000 in
theorem t2_104 : (.code yX2_at cX2_at 2 (some .int) : Cond) ∈ TT := tb2 104 rfl rfl
set_option maxRecDepth 20000 in
theorem t2_105 : (.methodLink RX6 59 arraycopyName : Cond) ∈ TT := tb2 105 (by decide +kernel) rfl
set_option maxRecDepth 20000 in
theorem t2_106 : (.static arraycopyName : Cond) ∈ TT := tb2 106 (by decide +kernel) rfl
set_option maxRecDepth 20000 in
theorem t2_107 : (.native arraycopyName : Cond) ∈ TT := tb2 107 (by decide +kernel) rfl
set_option maxRecDepth 20000 in
theorem t2_108 : (.methodLink RX6 65 yX6_lay : Cond) ∈ TT := tb2 108 (by decide +kernel) rfl
set_option maxRecDepth 20000 in
theorem t2_110 : (.instanceMethod yX6_lay : Cond) ∈ TT := tb2 110 (by decide +kernel) rfl
set_option maxRecDepth 20000 in
theorem t2_111 : (.code yX6_lay cX6_lay 5 none : Cond) ∈ TT := tb2 111 rfl rfl
set_option maxRecDepth 20000 in
theorem t2_113 : (.static yX9_isPlace : Cond) ∈ TT := tb2 113 (by decide +kernel) rfl
set_option maxRecDepth 20000 in
theorem t2_114 : (.code yX9_isPlace cX9_isPlace 1 (some .boolean) : Cond) ∈ TT := tb2 114 rfl rfl
set_option maxRecDepth 20000 in
theorem t2_115 : (.methodLink RX6 73 yX1_isSolid : Cond) ∈ TT := tb2 115 (by decide +kernel) rfl
set_option maxRecDepth 20000 in
theorem t2_116 : (.instanceMethod yX1_isSolid : Cond) ∈ TT := tb2 116 (by decide +kernel) rfl
set_option maxRecDepth 20000 in
theorem t2_117 : (.selects RX1 yX1_isSolid yX1_isSolid : Cond) ∈ TT := tb2 117 (by decide +kernel) rfl
set_option maxRecDepth 20000 in
theorem t2_118 : (.code yX1_isSolid cX1_isSolid 3 (some .boolean) : Cond) ∈ TT := tb2 118 rfl rfl
set_option maxRecDepth 20000 in
theorem t2_119 : (.methodLink RX6 77 yX6_liesUpper : Cond) ∈ TT := tb2 119 (by decide +kernel) rfl
set_option maxRecDepth 20000 in
theorem t2_121 : (.instanceMethod yX6_liesUpper : Cond) ∈ TT := tb2 121 (by decide +kernel) rfl
set_option maxRecDepth 20000 in
theorem t2_122 : (.code yX6_liesUpper cX6_liesUpper 2 (some .boolean) : Cond) ∈ TT := tb2 122 rfl rfl
set_option maxRecDepth 20000 in
theorem t2_123 : (.methodLink RX6 80 yX1_markOf : Cond) ∈ TT := tb2 123 (by decide +kernel) rfl
set_option maxRecDepth 20000 in
theorem t2_124 : (.instanceMethod yX1_markOf : Cond) ∈ TT := tb2 124 (by decide +kernel) rfl
set_option maxRecDepth 20000 in
theorem t2_125 : (.selects RX1 yX1_markOf yX1_markOf : Cond) ∈ TT := tb2 125 (by decide +kernel) rfl
set_option maxRecDepth 20000 in
theorem t2_126 : (.code yX1_markOf cX1_markOf 4 (some .int) : Cond) ∈ TT := tb2 126 rfl rfl
set_option maxRecDepth 20000 in
theorem t2_127 : (.methodLink RX9 142 yX6_cellsSeen : Cond) ∈ TT := tb2 127 (by decide +kernel) rfl
set_option maxRecDepth 20000 in
theorem t2_128 : (.instanceMethod yX6_cellsSeen : Cond) ∈ TT := tb2 128 (by decide +kernel) rfl
set_option maxRecDepth 20000 in
theorem t2_129 : (.selects RX6 yX6_cellsSeen yX6_cellsSeen : Cond) ∈ TT := tb2 129 (by decide +kernel) rfl
set_option maxRecDepth 20000 in
theorem t2_130 : (.code yX6_cellsSeen cX6_cellsSeen 5 (some .int) : Cond) ∈ TT := tb2 130 rfl rfl
set_option maxRecDepth 20000 in
theorem t2_131 : (.methodLink RX6 93 yX6_reach : Cond) ∈ TT := tb2 131 (by decide +kernel) rfl
set_option maxRecDepth 20000 in
theorem t2_132 : (.instanceMethod yX6_reach : Cond) ∈ TT := tb2 132 (by decide +kernel) rfl
set_option maxRecDepth 20000 in
theorem t2_133 : (.selects RX6 yX6_reach yX6_reach : Cond) ∈ TT := tb2 133 (by decide +kernel) rfl
set_option maxRecDepth 20000 in
theorem t2_134 : (.code yX6_reach cX6_reach 1 (some .int) : Cond) ∈ TT := tb2 134 rfl rfl
set_option maxRecDepth 20000 in
theorem t2_135 : (.methodLink RX6 84 Lib.Math.min.name : Cond) ∈ TT := tb2 135 (by decide +kernel) rfl
set_option maxRecDepth 20000 in
theorem t2_136 : (.methodLink RX6 96 yX6_bladeAt : Cond) ∈ TT := tb2 136 (by decide +kernel) rfl
set_option maxRecDepth 20000 in
theorem t2_137 : (.instanceMethod yX6_bladeAt : Cond) ∈ TT := tb2 137 (by decide +kernel) rfl
set_option maxRecDepth 20000 in
theorem t2_138 : (.selects RX6 yX6_bladeAt yX6_bladeAt : Cond) ∈ TT := tb2 138 (by decide +kernel) rfl
set_option maxRecDepth 20000 in
theorem t2_139 : (.code yX6_bladeAt cX6_bladeAt 3 (some .int) : Cond) ∈ TT := tb2 139 rfl rfl
set_option maxRecDepth 20000 in
theorem t2_140 : (.methodLink RX6 87 yX6_markAt : Cond) ∈ TT := tb2 140 (by decide +kernel) rfl
set_option maxRecDepth 20000 in
theorem t2_142 : (.instanceMethod yX6_markAt : Cond) ∈ TT := tb2 142 (by decide +kernel) rfl
set_option maxRecDepth 20000 in
theorem t2_143 : (.code yX6_markAt cX6_markAt 2 (some .int) : Cond) ∈ TT := tb2 143 rfl rfl
set_option maxRecDepth 20000 in
theorem t2_144 : (.methodLink RX9 145 yX1_hasGap : Cond) ∈ TT := tb2 144 (by decide +kernel) rfl
set_option maxRecDepth 20000 in
theorem t2_145 : (.instanceMethod yX1_hasGap : Cond) ∈ TT := tb2 145 (by decide +kernel) rfl
set_option maxRecDepth 20000 in
theorem t2_146 : (.selects RX1 yX1_hasGap yX1_hasGap : Cond) ∈ TT := tb2 146 (by decide +kernel) rfl
set_option maxRecDepth 20000 in
theorem t2_147 : (.code yX1_hasGap cX1_hasGap 2 (some .boolean) : Cond) ∈ TT := tb2 147 rfl rfl
set_option maxRecDepth 20000 in
theorem t2_148 : (.methodLink RX9 148 yX2_at : Cond) ∈ TT := tb2 148 (by decide +kernel) rfl
set_option maxRecDepth 20000 in
theorem t2_149 : (.methodLink RL 43 yX9_look : Cond) ∈ TT := tb2 149 (by decide +kernel) rfl
set_option maxRecDepth 20000 in
theorem t2_150 : (.instanceMethod yX9_look : Cond) ∈ TT := tb2 150 (by decide +kernel) rfl
set_option maxRecDepth 20000 in
theorem t2_151 : (.selects RX9 yX9_look yX9_look : Cond) ∈ TT := tb2 151 (by decide +kernel) rfl
set_option maxRecDepth 20000 in
theorem t2_152 : (.code yX9_look cX9_look 4 (some .int) : Cond) ∈ TT := tb2 152 rfl rfl
set_option maxRecDepth 20000 in
theorem t2_153 : (.methodLink RX9 151 yX9_isPlace : Cond) ∈ TT := tb2 153 (by decide +kernel) rfl
set_option maxRecDepth 20000 in
theorem t2_154 : (.methodLink RX9 154 yX9_isBit : Cond) ∈ TT := tb2 154 (by decide +kernel) rfl
set_option maxRecDepth 20000 in
theorem t2_155 : (.static yX9_isBit : Cond) ∈ TT := tb2 155 (by decide +kernel) rfl
set_option maxRecDepth 20000 in
theorem t2_156 : (.code yX9_isBit cX9_isBit 1 (some .boolean) : Cond) ∈ TT := tb2 156 rfl rfl
set_option maxRecDepth 20000 in
theorem t2_157 : (.methodLink RX9 157 yX6_letterAt : Cond) ∈ TT := tb2 157 (by decide +kernel) rfl
set_option maxRecDepth 20000 in
theorem t2_158 : (.instanceMethod yX6_letterAt : Cond) ∈ TT := tb2 158 (by decide +kernel) rfl
set_option maxRecDepth 20000 in
theorem t2_159 : (.selects RX6 yX6_letterAt yX6_letterAt : Cond) ∈ TT := tb2 159 (by decide +kernel) rfl
set_option maxRecDepth 20000 in
theorem t2_160 : (.code yX6_letterAt cX6_letterAt 2 (some .int) : Cond) ∈ TT := tb2 160 rfl rfl
set_option maxRecDepth 20000 in
theorem t2_161 : (.methodLink RX6 90 yX1_letterOf : Cond) ∈ TT := tb2 161 (by decide +kernel) rfl
set_option maxRecDepth 20000 in
theorem t2_162 : (.instanceMethod yX1_letterOf : Cond) ∈ TT := tb2 162 (by decide +kernel) rfl
set_option maxRecDepth 20000 in
theorem t2_163 : (.selects RX1 yX1_letterOf yX1_letterOf : Cond) ∈ TT := tb2 163 (by decide +kernel) rfl
set_option maxRecDepth 20000 in
theorem t2_164 : (.code yX1_letterOf cX1_letterOf 2 (some .int) : Cond) ∈ TT := tb2 164 rfl rfl
set_option maxRecDepth 20000 in
theorem t2_165 : (.methodLink RX9 160 yX6_bladeAt : Cond) ∈ TT := tb2 165 (by decide +kernel) rfl
set_option maxRecDepth 20000 in
theorem t2_166 : (.methodLink RL 48 yX9_spread : Cond) ∈ TT := tb2 166 (by decide +kernel) rfl
set_option maxRecDepth 20000 in
theorem t2_167 : (.instanceMethod yX9_spread : Cond) ∈ TT := tb2 167 (by decide +kernel) rfl
set_option maxRecDepth 20000 in
theorem t2_168 : (.selects RX9 yX9_spread yX9_spread : Cond) ∈ TT := tb2 168 (by decide +kernel) rfl
set_option maxRecDepth 20000 in
theorem t2_169 : (.code yX9_spread cX9_spread 2 (some .int) : Cond) ∈ TT := tb2 169 rfl rfl
set_option maxRecDepth 20000 in
theorem t2_170 : (.methodLink RX9 163 yX2_canWiden : Cond) ∈ TT := tb2 170 (by decide +kernel) rfl
set_option maxRecDepth 20000 in
theorem t2_171 : (.instanceMethod yX2_canWiden : Cond) ∈ TT := tb2 171 (by decide +kernel) rfl
set_option maxRecDepth 20000 in
theorem t2_172 : (.selects RX2 yX2_canWiden yX2_canWiden : Cond) ∈ TT := tb2 172 (by decide +kernel) rfl
set_option maxRecDepth 20000 in
theorem t2_173 : (.code yX2_canWiden cX2_canWiden 2 (some .boolean) : Cond) ∈ TT := tb2 173 rfl rfl
set_option maxRecDepth 20000 in
theorem t2_174 : (.methodLink RX2 19 yX1_canPart : Cond) ∈ TT := tb2 174 (by decide +kernel) rfl
set_option maxRecDepth 20000 in
theorem t2_175 : (.instanceMethod yX1_canPart : Cond) ∈ TT := tb2 175 (by decide +kernel) rfl
set_option maxRecDepth 20000 in
theorem t2_176 : (.selects RX1 yX1_canPart yX1_canPart : Cond) ∈ TT := tb2 176 (by decide +kernel) rfl
set_option maxRecDepth 20000 in
theorem t2_177 : (.code yX1_canPart cX1_canPart 2 (some .boolean) : Cond) ∈ TT := tb2 177 rfl rfl
set_option maxRecDepth 20000 in
theorem t2_178 : (.methodLink RX9 166 yX0_remember : Cond) ∈ TT := tb2 178 (by decide +kernel) rfl
set_option maxRecDepth 20000 in
theorem t2_179 : (.instanceMethod yX0_remember : Cond) ∈ TT := tb2 179 (by decide +kernel) rfl
set_option maxRecDepth 20000 in
theorem t2_180 : (.selects RX0 yX0_remember yX0_remember : Cond) ∈ TT := tb2 180 (by decide +kernel) rfl
set_option maxRecDepth 20000 in
theorem t2_181 : (.code yX0_remember cX0_remember 2 none : Cond) ∈ TT := tb2 181 rfl rfl
set_option maxRecDepth 20000 in
theorem t2_182 : (.methodLink RX0 20 yX0_forgetFirst : Cond) ∈ TT := tb2 182 (by decide +kernel) rfl
set_option maxRecDepth 20000 in
theorem t2_184 : (.instanceMethod yX0_forgetFirst : Cond) ∈ TT := tb2 184 (by decide +kernel) rfl
set_option maxRecDepth 20000 in
theorem t2_185 : (.code yX0_forgetFirst cX0_forgetFirst 2 none : Cond) ∈ TT := tb2 185 rfl rfl
set_option maxRecDepth 20000 in
theorem t2_186 : (.methodLink RX0 29 arraycopyName : Cond) ∈ TT := tb2 186 (by decide +kernel) rfl
set_option maxRecDepth 20000 in
theorem t2_187 : (.methodLink RX0 23 yX2_copyTo : Cond) ∈ TT := tb2 187 (by decide +kernel) rfl
set_option maxRecDepth 20000 in
theorem t2_188 : (.instanceMethod yX2_copyTo : Cond) ∈ TT := tb2 188 (by decide +kernel) rfl
set_option maxRecDepth 20000 in
theorem t2_189 : (.selects RX2 yX2_copyTo yX2_copyTo : Cond) ∈ TT := tb2 189 (by decide +kernel) rfl
set_option maxRecDepth 20000 in
theorem t2_190 : (.code yX2_copyTo cX2_copyTo 2 none : Cond) ∈ TT := tb2 190 rfl rfl
set_option maxRecDepth 20000 in
theorem t2_191 : (.methodLink RX2 52 arraycopyName : Cond) ∈ TT := tb2 191 (by decide +kernel) rfl
set_option maxRecDepth 20000 in
theorem t2_192 : (.methodLink RX9 170 yX2_widen : Cond) ∈ TT := tb2 192 (by decide +kernel) rfl
set_option maxRecDepth 20000 in
theorem t2_193 : (.instanceMethod yX2_widen : Cond) ∈ TT := tb2 193 (by decide +kernel) rfl
set_option maxRecDepth 20000 in
theorem t2_194 : (.selects RX2 yX2_widen yX2_widen : Cond) ∈ TT := tb2 194 (by decide +kernel) rfl
set_option maxRecDepth 20000 in
theorem t2_195 : (.code yX2_widen cX2_widen 2 (some .boolean) : Cond) ∈ TT := tb2 195 rfl rfl
set_option maxRecDepth 20000 in
theorem t2_196 : (.methodLink RX2 25 yX2_canWiden : Cond) ∈ TT := tb2 196 (by decide +kernel) rfl
set_option maxRecDepth 20000 in
theorem t2_197 : (.methodLink RL 52 yX9_fold : Cond) ∈ TT := tb2 197 (by decide +kernel) rfl
set_option maxRecDepth 20000 in
theorem t2_198 : (.instanceMethod yX9_fold : Cond) ∈ TT := tb2 198 (by decide +kernel) rfl
set_option maxRecDepth 20000 in
theorem t2_199 : (.selects RX9 yX9_fold yX9_fold : Cond) ∈ TT := tb2 199 (by decide +kernel) rfl
set_option maxRecDepth 20000 in
theorem t2_200 : (.code yX9_fold cX9_fold 2 (some .int) : Cond) ∈ TT := tb2 200 rfl rfl
set_option maxRecDepth 20000 in
theorem t2_201 : (.methodLink RX9 173 yX2_canNarrow : Cond) ∈ TT := tb2 201 (by decide +kernel) rfl
set_option maxRecDepth 20000 in
theorem t2_202 : (.instanceMethod yX2_canNarrow : Cond) ∈ TT := tb2 202 (by decide +kernel) rfl
set_option maxRecDepth 20000 in
theorem t2_203 : (.selects RX2 yX2_canNarrow yX2_canNarrow : Cond) ∈ TT := tb2 203 (by decide +kernel) rfl
set_option maxRecDepth 20000 in
theorem t2_204 : (.code yX2_canNarrow cX2_canNarrow 2 (some .boolean) : Cond) ∈ TT := tb2 204 rfl rfl
set_option maxRecDepth 20000 in
theorem t2_205 : (.methodLink RX9 176 yX2_narrow : Cond) ∈ TT := tb2 205 (by decide +kernel) rfl
set_option maxRecDepth 20000 in
theorem t2_206 : (.instanceMethod yX2_narrow : Cond) ∈ TT := tb2 206 (by decide +kernel) rfl
set_option maxRecDepth 20000 in
theorem t2_207 : (.selects RX2 yX2_narrow yX2_narrow : Cond) ∈ TT := tb2 207 (by decide +kernel) rfl
set_option maxRecDepth 20000 in
theorem t2_208 : (.code yX2_narrow cX2_narrow 2 (some .boolean) : Cond) ∈ TT := tb2 208 rfl rfl
set_option maxRecDepth 20000 in
theorem t2_209 : (.methodLink RX2 28 yX2_canNarrow : Cond) ∈ TT := tb2 209 (by decide +kernel) rfl
set_option maxRecDepth 20000 in
theorem t2_210 : (.methodLink RL 56 yX9_fling : Cond) ∈ TT := tb2 210 (by decide +kernel) rfl
set_option maxRecDepth 20000 in
theorem t2_211 : (.instanceMethod yX9_fling : Cond) ∈ TT := tb2 211 (by decide +kernel) rfl
set_option maxRecDepth 20000 in
theorem t2_212 : (.selects RX9 yX9_fling yX9_fling : Cond) ∈ TT := tb2 212 (by decide +kernel) rfl
set_option maxRecDepth 20000 in
theorem t2_213 : (.code yX9_fling cX9_fling 1 (some .int) : Cond) ∈ TT := tb2 213 rfl rfl
set_option maxRecDepth 20000 in
theorem t2_214 : (.methodLink RX9 179 yX2_widenAll : Cond) ∈ TT := tb2 214 (by decide +kernel) rfl
set_option maxRecDepth 20000 in
theorem t2_215 : (.instanceMethod yX2_widenAll : Cond) ∈ TT := tb2 215 (by decide +kernel) rfl
set_option maxRecDepth 20000 in
theorem t2_216 : (.selects RX2 yX2_widenAll yX2_widenAll : Cond) ∈ TT := tb2 216 (by decide +kernel) rfl
set_option maxRecDepth 20000 in
theorem t2_217 : (.code yX2_widenAll cX2_widenAll 3 (some .int) : Cond) ∈ TT := tb2 217 rfl rfl
set_option maxRecDepth 20000 in
theorem t2_218 : (.methodLink RX2 31 yX2_widen : Cond) ∈ TT := tb2 218 (by decide +kernel) rfl
set_option maxRecDepth 20000 in
theorem t2_219 : (.methodLink RL 60 yX9_snap : Cond) ∈ TT := tb2 219 (by decide +kernel) rfl
set_option maxRecDepth 20000 in
theorem t2_220 : (.instanceMethod yX9_snap : Cond) ∈ TT := tb2 220 (by decide +kernel) rfl
set_option maxRecDepth 20000 in
theorem t2_221 : (.selects RX9 yX9_snap yX9_snap : Cond) ∈ TT := tb2 221 (by decide +kernel) rfl
set_option maxRecDepth 20000 in
theorem t2_222 : (.code yX9_snap cX9_snap 2 (some .int) : Cond) ∈ TT := tb2 222 rfl rfl
set_option maxRecDepth 20000 in
theorem t2_223 : (.methodLink RX9 182 yX2_sum : Cond) ∈ TT := tb2 223 (by decide +kernel) rfl
set_option maxRecDepth 20000 in
theorem t2_224 : (.instanceMethod yX2_sum : Cond) ∈ TT := tb2 224 (by decide +kernel) rfl
set_option maxRecDepth 20000 in
theorem t2_225 : (.selects RX2 yX2_sum yX2_sum : Cond) ∈ TT := tb2 225 (by decide +kernel) rfl
set_option maxRecDepth 20000 in
theorem t2_226 : (.code yX2_sum cX2_sum 1 (some .int) : Cond) ∈ TT := tb2 226 rfl rfl
set_option maxRecDepth 20000 in
theorem t2_227 : (.methodLink RX2 40 yX2_sumAhead : Cond) ∈ TT := tb2 227 (by decide +kernel) rfl
set_option maxRecDepth 20000 in
theorem t2_228 : (.methodLink RL 64 yX9_undo : Cond) ∈ TT := tb2 228 (by decide +kernel) rfl
set_option maxRecDepth 20000 in
theorem t2_229 : (.instanceMethod yX9_undo : Cond) ∈ TT := tb2 229 (by decide +kernel) rfl
set_option maxRecDepth 20000 in
theorem t2_230 : (.selects RX9 yX9_undo yX9_undo : Cond) ∈ TT := tb2 230 (by decide +kernel) rfl
set_option maxRecDepth 20000 in
theorem t2_231 : (.code yX9_undo cX9_undo 1 (some .int) : Cond) ∈ TT := tb2 231 rfl rfl
set_option maxRecDepth 20000 in
theorem t2_232 : (.methodLink RX9 185 yX0_takeBack : Cond) ∈ TT := tb2 232 (by decide +kernel) rfl
set_option maxRecDepth 20000 in
theorem t2_233 : (.instanceMethod yX0_takeBack : Cond) ∈ TT := tb2 233 (by decide +kernel) rfl
set_option maxRecDepth 20000 in
theorem t2_234 : (.selects RX0 yX0_takeBack yX0_takeBack : Cond) ∈ TT := tb2 234 (by decide +kernel) rfl
set_option maxRecDepth 20000 in
theorem t2_235 : (.code yX0_takeBack cX0_takeBack 2 (some .boolean) : Cond) ∈ TT := tb2 235 rfl rfl
set_option maxRecDepth 20000 in
theorem t2_236 : (.methodLink RX0 35 yX2_copyBack : Cond) ∈ TT := tb2 236 (by decide +kernel) rfl
set_option maxRecDepth 20000 in
theorem t2_237 : (.instanceMethod yX2_copyBack : Cond) ∈ TT := tb2 237 (by decide +kernel) rfl
set_option maxRecDepth 20000 in
theorem t2_238 : (.selects RX2 yX2_copyBack yX2_copyBack : Cond) ∈ TT := tb2 238 (by decide +kernel) rfl
set_option maxRecDepth 20000 in
theorem t2_239 : (.code yX2_copyBack cX2_copyBack 2 none : Cond) ∈ TT := tb2 239 rfl rfl
set_option maxRecDepth 20000 in
theorem t3_0 : (.methodLink RX9 189 yX0_size : Cond) ∈ TT := tb3 0 (by decide +kernel) rfl
set_option maxRecDepth 20000 in
theorem t3_1 : (.instanceMethod yX0_size : Cond) ∈ TT := tb3 1 (by decide +kernel) rfl
set_option maxRecDepth 20000 in
theorem t3_2 : (.selects RX0 yX0_size yX0_size : Cond) ∈ TT := tb3 2 (by decide +kernel) rfl
set_option maxRecDepth 20000 in
theorem t3_3 : (.code yX0_size cX0_size 1 (some .int) : Cond) ∈ TT := tb3 3 rfl rfl
set_option maxRecDepth 20000 in
theorem t3_4 : (.methodLink RL 68 yX9_reads : Cond) ∈ TT := tb3 4 (by decide +kernel) rfl
set_option maxRecDepth 20000 in
theorem t3_5 : (.instanceMethod yX9_reads : Cond) ∈ TT := tb3 5 (by decide +kernel) rfl
set_option maxRecDepth 20000 in
theorem t3_6 : (.selects RX9 yX9_reads yX9_reads : Cond) ∈ TT := tb3 6 (by decide +kernel) rfl
set_option maxRecDepth 20000 in
theorem t3_7 : (.code yX9_reads cX9_reads 2 (some .int) : Cond) ∈ TT := tb3 7 rfl rfl
set_option maxRecDepth 20000 in
theorem t3_8 : (.methodLink RX9 190 yX8_firstRead : Cond) ∈ TT := tb3 8 (by decide +kernel) rfl
set_option maxRecDepth 20000 in
theorem t3_9 : (.instanceMethod yX8_firstRead : Cond) ∈ TT := tb3 9 (by decide +kernel) rfl
set_option maxRecDepth 20000 in
theorem t3_10 : (.selects RX8 yX8_firstRead yX8_firstRead : Cond) ∈ TT := tb3 10 (by decide +kernel) rfl
set_option maxRecDepth 20000 in
theorem t3_11 : (.code yX8_firstRead cX8_firstRead 6 (some .int) : Cond) ∈ TT := tb3 11 rfl rfl
set_option maxRecDepth 20000 in
theorem t3_12 : (.methodLink RX8 36 yX6_reach : Cond) ∈ TT := tb3 12 (by decide +kernel) rfl
set_option maxRecDepth 20000 in
theorem t3_13 : (.methodLink RX8 42 yX6_side : Cond) ∈ TT := tb3 13 (by decide +kernel) rfl
set_option maxRecDepth 20000 in
theorem t3_14 : (.instanceMethod yX6_side : Cond) ∈ TT := tb3 14 (by decide +kernel) rfl
set_option maxRecDepth 20000 in
theorem t3_15 : (.selects RX6 yX6_side yX6_side : Cond) ∈ TT := tb3 15 (by decide +kernel) rfl
set_option maxRecDepth 20000 in
theorem t3_16 : (.code yX6_side cX6_side 1 (some .int) : Cond) ∈ TT := tb3 16 rfl rfl
set_option maxRecDepth 20000 in
theorem t3_17 : (.methodLink RX8 45 yX8_isReadAt : Cond) ∈ TT := tb3 17 (by decide +kernel) rfl
set_option maxRecDepth 20000 in
theorem t3_19 : (.instanceMethod yX8_isReadAt : Cond) ∈ TT := tb3 19 (by decide +kernel) rfl
set_option maxRecDepth 20000 in
theorem t3_20 : (.code yX8_isReadAt cX8_isReadAt 5 (some .boolean) : Cond) ∈ TT := tb3 20 rfl rfl
set_option maxRecDepth 20000 in
theorem t3_21 : (.methodLink RX8 49 yX6_letterAt : Cond) ∈ TT := tb3 21 (by decide +kernel) rfl
set_option maxRecDepth 20000 in
theorem t3_22 : (.methodLink RL 72 yX9_open : Cond) ∈ TT := tb3 22 (by decide +kernel) rfl
set_option maxRecDepth 20000 in
theorem t3_23 : (.instanceMethod yX9_open : Cond) ∈ TT := tb3 23 (by decide +kernel) rfl
set_option maxRecDepth 20000 in
theorem t3_24 : (.selects RX9 yX9_open yX9_open : Cond) ∈ TT := tb3 24 (by decide +kernel) rfl
set_option maxRecDepth 20000 in
theorem t3_25 : (.code yX9_open cX9_open 8 (some .int) : Cond) ∈ TT := tb3 25 rfl rfl
set_option maxRecDepth 20000 in
theorem t3_26 : (.methodLink RX9 194 yX7_begin : Cond) ∈ TT := tb3 26 (by decide +kernel) rfl
set_option maxRecDepth 20000 in
theorem t3_27 : (.instanceMethod yX7_begin : Cond) ∈ TT := tb3 27 (by decide +kernel) rfl
set_option maxRecDepth 20000 in
theorem t3_28 : (.selects RX7 yX7_begin yX7_begin : Cond) ∈ TT := tb3 28 (by decide +kernel) rfl
set_option maxRecDepth 20000 in
theorem t3_29 : (.code yX7_begin cX7_begin 2 none : Cond) ∈ TT := tb3 29 rfl rfl
set_option maxRecDepth 20000 in
theorem t3_30 : (.methodLink RX7 23 yX2_clear : Cond) ∈ TT := tb3 30 (by decide +kernel) rfl
set_option maxRecDepth 20000 in
theorem t3_31 : (.methodLink RX7 28 yX6_layAll : Cond) ∈ TT := tb3 31 (by decide +kernel) rfl
set_option maxRecDepth 20000 in
theorem t3_32 : (.methodLink RX9 198 yX2_stepsFrom : Cond) ∈ TT := tb3 32 (by decide +kernel) rfl
set_option maxRecDepth 20000 in
theorem t3_33 : (.instanceMethod yX2_stepsFrom : Cond) ∈ TT := tb3 33 (by decide +kernel) rfl
set_option maxRecDepth 20000 in
theorem t3_34 : (.selects RX2 yX2_stepsFrom yX2_stepsFrom : Cond) ∈ TT := tb3 34 (by decide +kernel) rfl
set_option maxRecDepth 20000 in
theorem t3_35 : (.code yX2_stepsFrom cX2_stepsFrom 4 (some .int) : Cond) ∈ TT := tb3 35 rfl rfl
set_option maxRecDepth 20000 in
theorem t3_36 : (.methodLink RX2 47 Lib.Math.abs.name : Cond) ∈ TT := tb3 36 (by decide +kernel) rfl
set_option maxRecDepth 20000 in
theorem t3_37 : (.static Lib.Math.abs.name : Cond) ∈ TT := tb3 37 (by decide +kernel) rfl
set_option maxRecDepth 20000 in
theorem t3_38 : (.code Lib.Math.abs.name Lib.Math.abs.code 1 (some .int) : Cond) ∈ TT := tb3 38 rfl rfl
set_option maxRecDepth 20000 in
theorem t3_39 : (.methodLink RX9 202 yX8_isRead : Cond) ∈ TT := tb3 39 (by decide +kernel) rfl
set_option maxRecDepth 20000 in
theorem t3_40 : (.instanceMethod yX8_isRead : Cond) ∈ TT := tb3 40 (by decide +kernel) rfl
set_option maxRecDepth 20000 in
theorem t3_41 : (.selects RX8 yX8_isRead yX8_isRead : Cond) ∈ TT := tb3 41 (by decide +kernel) rfl
set_option maxRecDepth 20000 in
theorem t3_42 : (.code yX8_isRead cX8_isRead 2 (some .boolean) : Cond) ∈ TT := tb3 42 rfl rfl
set_option maxRecDepth 20000 in
theorem t3_43 : (.methodLink RX8 32 yX8_firstRead : Cond) ∈ TT := tb3 43 (by decide +kernel) rfl
set_option maxRecDepth 20000 in
theorem t3_44 : (.methodLink RX9 206 yX2_figures : Cond) ∈ TT := tb3 44 (by decide +kernel) rfl
set_option maxRecDepth 20000 in
theorem t3_45 : (.instanceMethod yX2_figures : Cond) ∈ TT := tb3 45 (by decide +kernel) rfl
set_option maxRecDepth 20000 in
theorem t3_46 : (.selects RX2 yX2_figures yX2_figures : Cond) ∈ TT := tb3 46 (by decide +kernel) rfl
set_option maxRecDepth 20000 in
theorem t3_47 : (.code yX2_figures cX2_figures 3 (some .int) : Cond) ∈ TT := tb3 47 rfl rfl
set_option maxRecDepth 20000 in
theorem t3_48 : (.methodLink RX2 44 yX1_hasGap : Cond) ∈ TT := tb3 48 (by decide +kernel) rfl
set_option maxRecDepth 20000 in
theorem t3_49 : (.methodLink RX9 209 yX7_step : Cond) ∈ TT := tb3 49 (by decide +kernel) rfl
set_option maxRecDepth 20000 in
theorem t3_50 : (.instanceMethod yX7_step : Cond) ∈ TT := tb3 50 (by decide +kernel) rfl
set_option maxRecDepth 20000 in
theorem t3_51 : (.selects RX7 yX7_step yX7_step : Cond) ∈ TT := tb3 51 (by decide +kernel) rfl
set_option maxRecDepth 20000 in
theorem t3_52 : (.code yX7_step cX7_step 2 (some .boolean) : Cond) ∈ TT := tb3 52 rfl rfl
set_option maxRecDepth 20000 in
theorem t3_53 : (.methodLink RX7 34 yX1_size : Cond) ∈ TT := tb3 53 (by decide +kernel) rfl
set_option maxRecDepth 20000 in
theorem t3_54 : (.methodLink RX7 40 yX2_widen : Cond) ∈ TT := tb3 54 (by decide +kernel) rfl
set_option maxRecDepth 20000 in
theorem t3_55 : (.methodLink RX7 44 yX6_layFrom : Cond) ∈ TT := tb3 55 (by decide +kernel) rfl
set_option maxRecDepth 20000 in
theorem t3_56 : (.methodLink RX7 48 yX2_close : Cond) ∈ TT := tb3 56 (by decide +kernel) rfl
set_option maxRecDepth 20000 in
theorem t3_57 : (.instanceMethod yX2_close : Cond) ∈ TT := tb3 57 (by decide +kernel) rfl
set_option maxRecDepth 20000 in
theorem t3_58 : (.selects RX2 yX2_close yX2_close : Cond) ∈ TT := tb3 58 (by decide +kernel) rfl
set_option maxRecDepth 20000 in
theorem t3_59 : (.code yX2_close cX2_close 2 none : Cond) ∈ TT := tb3 59 rfl rfl
set_option maxRecDepth 20000 in
theorem t3_60 : (.methodLink RL 76 yX9_most : Cond) ∈ TT := tb3 60 (by decide +kernel) rfl
set_option maxRecDepth 20000 in
theorem t3_61 : (.instanceMethod yX9_most : Cond) ∈ TT := tb3 61 (by decide +kernel) rfl
set_option maxRecDepth 20000 in
theorem t3_62 : (.selects RX9 yX9_most yX9_most : Cond) ∈ TT := tb3 62 (by decide +kernel) rfl
set_option maxRecDepth 20000 in
theorem t3_63 : (.code yX9_most cX9_most 8 (some .int) : Cond) ∈ TT := tb3 63 rfl rfl
set_option maxRecDepth 20000 in
theorem t3_64 : (.methodLink RX9 213 yX9_isLetter : Cond) ∈ TT := tb3 64 (by decide +kernel) rfl
set_option maxRecDepth 20000 in
theorem t3_65 : (.methodLink RX9 216 yX6_placesWith : Cond) ∈ TT := tb3 65 (by decide +kernel) rfl
set_option maxRecDepth 20000 in
theorem t3_66 : (.instanceMethod yX6_placesWith : Cond) ∈ TT := tb3 66 (by decide +kernel) rfl
set_option maxRecDepth 20000 in
theorem t3_67 : (.selects RX6 yX6_placesWith yX6_placesWith : Cond) ∈ TT := tb3 67 (by decide +kernel) rfl
set_option maxRecDepth 20000 in
theorem t3_68 : (.code yX6_placesWith cX6_placesWith 5 (some .int) : Cond) ∈ TT := tb3 68 rfl rfl
set_option maxRecDepth 20000 in
theorem t3_69 : (.methodLink RX6 99 yX6_letterAt : Cond) ∈ TT := tb3 69 (by decide +kernel) rfl
set_option maxRecDepth 20000 in
theorem t3_70 : (.methodLink RL 80 yX9_judge : Cond) ∈ TT := tb3 70 (by decide +kernel) rfl
set_option maxRecDepth 20000 in
theorem t3_71 : (.instanceMethod yX9_judge : Cond) ∈ TT := tb3 71 (by decide +kernel) rfl
set_option maxRecDepth 20000 in
theorem t3_72 : (.selects RX9 yX9_judge yX9_judge : Cond) ∈ TT := tb3 72 (by decide +kernel) rfl
set_option maxRecDepth 20000 in
theorem t3_73 : (.code yX9_judge cX9_judge 8 (some .int) : Cond) ∈ TT := tb3 73 rfl rfl
set_option maxRecDepth 20000 in
theorem t3_74 : (.constantLong RX9 219 1000 : Cond) ∈ TT := tb3 74 (by decide +kernel) rfl
set_option maxRecDepth 20000 in
theorem t3_75 : (.methodLink RX9 221 yX2_copyFrom : Cond) ∈ TT := tb3 75 (by decide +kernel) rfl
set_option maxRecDepth 20000 in
theorem t3_76 : (.instanceMethod yX2_copyFrom : Cond) ∈ TT := tb3 76 (by decide +kernel) rfl
set_option maxRecDepth 20000 in
theorem t3_77 : (.selects RX2 yX2_copyFrom yX2_copyFrom : Cond) ∈ TT := tb3 77 (by decide +kernel) rfl
set_option maxRecDepth 20000 in
theorem t3_78 : (.code yX2_copyFrom cX2_copyFrom 2 none : Cond) ∈ TT := tb3 78 rfl rfl
set_option maxRecDepth 20000 in
theorem t3_79 : (.methodLink RX9 224 yX9_comesTrue : Cond) ∈ TT := tb3 79 (by decide +kernel) rfl
set_option maxRecDepth 20000 in
theorem t3_81 : (.instanceMethod yX9_comesTrue : Cond) ∈ TT := tb3 81 (by decide +kernel) rfl
set_option maxRecDepth 20000 in
theorem t3_82 : (.code yX9_comesTrue cX9_comesTrue 4 (some .boolean) : Cond) ∈ TT := tb3 82 rfl rfl
set_option maxRecDepth 20000 in
theorem t3_83 : (.methodLink RX9 273 yX6_wide : Cond) ∈ TT := tb3 83 (by decide +kernel) rfl
set_option maxRecDepth 20000 in
theorem t3_84 : (.instanceMethod yX6_wide : Cond) ∈ TT := tb3 84 (by decide +kernel) rfl
set_option maxRecDepth 20000 in
theorem t3_85 : (.selects RX6 yX6_wide yX6_wide : Cond) ∈ TT := tb3 85 (by decide +kernel) rfl
set_option maxRecDepth 20000 in
theorem t3_86 : (.code yX6_wide cX6_wide 2 (some .int) : Cond) ∈ TT := tb3 86 rfl rfl
set_option maxRecDepth 20000 in
theorem t3_87 : (.methodLink RL 84 yX9_spy : Cond) ∈ TT := tb3 87 (by decide +kernel) rfl
set_option maxRecDepth 20000 in
theorem t3_88 : (.instanceMethod yX9_spy : Cond) ∈ TT := tb3 88 (by decide +kernel) rfl
set_option maxRecDepth 20000 in
theorem t3_89 : (.selects RX9 yX9_spy yX9_spy : Cond) ∈ TT := tb3 89 (by decide +kernel) rfl
set_option maxRecDepth 20000 in
theorem t3_90 : (.code yX9_spy cX9_spy 4 (some .int) : Cond) ∈ TT := tb3 90 rfl rfl
set_option maxRecDepth 20000 in
theorem t3_91 : (.methodLink RX9 228 yX5_add : Cond) ∈ TT := tb3 91 (by decide +kernel) rfl
set_option maxRecDepth 20000 in
theorem t3_92 : (.instanceMethod yX5_add : Cond) ∈ TT := tb3 92 (by decide +kernel) rfl
set_option maxRecDepth 20000 in
theorem t3_93 : (.selects RX5 yX5_add yX5_add : Cond) ∈ TT := tb3 93 (by decide +kernel) rfl
set_option maxRecDepth 20000 in
theorem t3_94 : (.code yX5_add cX5_add 4 (some .boolean) : Cond) ∈ TT := tb3 94 rfl rfl
set_option maxRecDepth 20000 in
theorem t3_95 : (.methodLink RX9 232 yX5_size : Cond) ∈ TT := tb3 95 (by decide +kernel) rfl
set_option maxRecDepth 20000 in
theorem t3_96 : (.instanceMethod yX5_size : Cond) ∈ TT := tb3 96 (by decide +kernel) rfl
set_option maxRecDepth 20000 in
theorem t3_97 : (.selects RX5 yX5_size yX5_size : Cond) ∈ TT := tb3 97 (by decide +kernel) rfl
set_option maxRecDepth 20000 in
theorem t3_98 : (.code yX5_size cX5_size 1 (some .int) : Cond) ∈ TT := tb3 98 rfl rfl
set_option maxRecDepth 20000 in
theorem t3_99 : (.methodLink RL 88 yX9_unspy : Cond) ∈ TT := tb3 99 (by decide +kernel) rfl
set_option maxRecDepth 20000 in
theorem t3_100 : (.instanceMethod yX9_unspy : Cond) ∈ TT := tb3 100 (by decide +kernel) rfl
set_option maxRecDepth 20000 in
theorem t3_101 : (.selects RX9 yX9_unspy yX9_unspy : Cond) ∈ TT := tb3 101 (by decide +kernel) rfl
set_option maxRecDepth 20000 in
theorem t3_102 : (.code yX9_unspy cX9_unspy 2 (some .int) : Cond) ∈ TT := tb3 102 rfl rfl
set_option maxRecDepth 20000 in
theorem t3_103 : (.methodLink RX9 233 yX5_clear : Cond) ∈ TT := tb3 103 (by decide +kernel) rfl
set_option maxRecDepth 20000 in
theorem t3_104 : (.instanceMethod yX5_clear : Cond) ∈ TT := tb3 104 (by decide +kernel) rfl
set_option maxRecDepth 20000 in
theorem t3_105 : (.selects RX5 yX5_clear yX5_clear : Cond) ∈ TT := tb3 105 (by decide +kernel) rfl
set_option maxRecDepth 20000 in
theorem t3_106 : (.code yX5_clear cX5_clear 1 none : Cond) ∈ TT := tb3 106 rfl rfl
set_option maxRecDepth 20000 in
theorem t3_107 : (.methodLink RL 92 yX9_gaps : Cond) ∈ TT := tb3 107 (by decide +kernel) rfl
set_option maxRecDepth 20000 in
theorem t3_108 : (.instanceMethod yX9_gaps : Cond) ∈ TT := tb3 108 (by decide +kernel) rfl
set_option maxRecDepth 20000 in
theorem t3_109 : (.selects RX9 yX9_gaps yX9_gaps : Cond) ∈ TT := tb3 109 (by decide +kernel) rfl
set_option maxRecDepth 20000 in
theorem t3_110 : (.code yX9_gaps cX9_gaps 6 (some .int) : Cond) ∈ TT := tb3 110 rfl rfl
set_option maxRecDepth 20000 in
theorem t3_111 : (.methodLink RX9 234 yX5_fits : Cond) ∈ TT := tb3 111 (by decide +kernel) rfl
set_option maxRecDepth 20000 in
theorem t3_112 : (.instanceMethod yX5_fits : Cond) ∈ TT := tb3 112 (by decide +kernel) rfl
set_option maxRecDepth 20000 in
theorem t3_113 : (.selects RX5 yX5_fits yX5_fits : Cond) ∈ TT := tb3 113 (by decide +kernel) rfl
set_option maxRecDepth 20000 in
theorem t3_114 : (.code yX5_fits cX5_fits 3 (some .boolean) : Cond) ∈ TT := tb3 114 rfl rfl
set_option maxRecDepth 20000 in
theorem t3_115 : (.methodLink RX5 26 yX6_letterAt : Cond) ∈ TT := tb3 115 (by decide +kernel) rfl
set_option maxRecDepth 20000 in
theorem t3_116 : (.methodLink RL 96 yX9_share : Cond) ∈ TT := tb3 116 (by decide +kernel) rfl
set_option maxRecDepth 20000 in
theorem t3_117 : (.instanceMethod yX9_share : Cond) ∈ TT := tb3 117 (by decide +kernel) rfl
set_option maxRecDepth 20000 in
theorem t3_118 : (.selects RX9 yX9_share yX9_share : Cond) ∈ TT := tb3 118 (by decide +kernel) rfl
set_option maxRecDepth 20000 in
theorem t3_119 : (.code yX9_share cX9_share 6 (some .int) : Cond) ∈ TT := tb3 119 rfl rfl
set_option maxRecDepth 20000 in
theorem t3_120 : (.methodLink RX9 237 yX1_isSolid : Cond) ∈ TT := tb3 120 (by decide +kernel) rfl
set_option maxRecDepth 20000 in
theorem t3_121 : (.methodLink RX9 241 yX9_shareOfPlace : Cond) ∈ TT := tb3 121 (by decide +kernel) rfl
set_option maxRecDepth 20000 in
theorem t3_123 : (.instanceMethod yX9_shareOfPlace : Cond) ∈ TT := tb3 123 (by decide +kernel) rfl
set_option maxRecDepth 20000 in
theorem t3_124 : (.code yX9_shareOfPlace cX9_shareOfPlace 4 (some .int) : Cond) ∈ TT := tb3 124 rfl rfl
set_option maxRecDepth 20000 in
theorem t3_125 : (.methodLink RX9 244 yX9_fraction : Cond) ∈ TT := tb3 125 (by decide +kernel) rfl
set_option maxRecDepth 20000 in
theorem t3_126 : (.static yX9_fraction : Cond) ∈ TT := tb3 126 (by decide +kernel) rfl
set_option maxRecDepth 20000 in
theorem t3_127 : (.code yX9_fraction cX9_fraction 4 (some .int) : Cond) ∈ TT := tb3 127 rfl rfl
set_option maxRecDepth 20000 in
theorem t3_128 : (.methodLink RX9 297 yX9_greatestShared : Cond) ∈ TT := tb3 128 (by decide +kernel) rfl
set_option maxRecDepth 20000 in
theorem t3_129 : (.static yX9_greatestShared : Cond) ∈ TT := tb3 129 (by decide +kernel) rfl
set_option maxRecDepth 20000 in
theorem t3_130 : (.code yX9_greatestShared cX9_greatestShared 6 (some .int) : Cond) ∈ TT := tb3 130 rfl rfl
set_option maxRecDepth 20000 in
theorem t3_131 : (.methodLink RL 101 yX9_rests : Cond) ∈ TT := tb3 131 (by decide +kernel) rfl
set_option maxRecDepth 20000 in
theorem t3_132 : (.instanceMethod yX9_rests : Cond) ∈ TT := tb3 132 (by decide +kernel) rfl
set_option maxRecDepth 20000 in
theorem t3_133 : (.selects RX9 yX9_rests yX9_rests : Cond) ∈ TT := tb3 133 (by decide +kernel) rfl
set_option maxRecDepth 20000 in
theorem t3_134 : (.code yX9_rests cX9_rests 7 (some .int) : Cond) ∈ TT := tb3 134 rfl rfl
set_option maxRecDepth 20000 in
theorem t3_135 : (.methodLink RX9 248 yX9_weighPair : Cond) ∈ TT := tb3 135 (by decide +kernel) rfl
set_option maxRecDepth 20000 in
theorem t3_137 : (.instanceMethod yX9_weighPair : Cond) ∈ TT := tb3 137 (by decide +kernel) rfl
set_option maxRecDepth 20000 in
theorem t3_138 : (.code yX9_weighPair cX9_weighPair 6 none : Cond) ∈ TT := tb3 138 rfl rfl
set_option maxRecDepth 20000 in
theorem t3_139 : (.methodLink RL 105 yX9_drops : Cond) ∈ TT := tb3 139 (by decide +kernel) rfl
set_option maxRecDepth 20000 in
theorem t3_140 : (.instanceMethod yX9_drops : Cond) ∈ TT := tb3 140 (by decide +kernel) rfl
set_option maxRecDepth 20000 in
theorem t3_141 : (.selects RX9 yX9_drops yX9_drops : Cond) ∈ TT := tb3 141 (by decide +kernel) rfl
set_option maxRecDepth 20000 in
theorem t3_142 : (.code yX9_drops cX9_drops 8 (some .int) : Cond) ∈ TT := tb3 142 rfl rfl
set_option maxRecDepth 20000 in
theorem t3_143 : (.methodLink RX9 252 yX9_weightOf : Cond) ∈ TT := tb3 143 (by decide +kernel) rfl
set_option maxRecDepth 20000 in
theorem t3_145 : (.instanceMethod yX9_weightOf : Cond) ∈ TT := tb3 145 (by decide +kernel) rfl
set_option maxRecDepth 20000 in
theorem t3_146 : (.code yX9_weightOf cX9_weightOf 5 (some .int) : Cond) ∈ TT := tb3 146 rfl rfl
set_option maxRecDepth 20000 in
theorem t3_147 : (.methodLink RX9 256 yX6_layStaying : Cond) ∈ TT := tb3 147 (by decide +kernel) rfl
set_option maxRecDepth 20000 in
theorem t3_148 : (.instanceMethod yX6_layStaying : Cond) ∈ TT := tb3 148 (by decide +kernel) rfl
set_option maxRecDepth 20000 in
theorem t3_149 : (.selects RX6 yX6_layStaying yX6_layStaying : Cond) ∈ TT := tb3 149 (by decide +kernel) rfl
set_option maxRecDepth 20000 in
theorem t3_150 : (.code yX6_layStaying cX6_layStaying 4 none : Cond) ∈ TT := tb3 150 rfl rfl
set_option maxRecDepth 20000 in
theorem t3_151 : (.methodLink RL 110 yX9_seed : Cond) ∈ TT := tb3 151 (by decide +kernel) rfl
set_option maxRecDepth 20000 in
theorem t3_152 : (.instanceMethod yX9_seed : Cond) ∈ TT := tb3 152 (by decide +kernel) rfl
set_option maxRecDepth 20000 in
theorem t3_153 : (.selects RX9 yX9_seed yX9_seed : Cond) ∈ TT := tb3 153 (by decide +kernel) rfl
set_option maxRecDepth 20000 in
theorem t3_154 : (.code yX9_seed cX9_seed 5 (some .long) : Cond) ∈ TT := tb3 154 rfl rfl
set_option maxRecDepth 20000 in
theorem t3_155 : (.methodLink RL 115 yX9_years : Cond) ∈ TT := tb3 155 (by decide +kernel) rfl
set_option maxRecDepth 20000 in
theorem t3_156 : (.instanceMethod yX9_years : Cond) ∈ TT := tb3 156 (by decide +kernel) rfl
set_option maxRecDepth 20000 in
theorem t3_157 : (.selects RX9 yX9_years yX9_years : Cond) ∈ TT := tb3 157 (by decide +kernel) rfl
set_option maxRecDepth 20000 in
theorem t3_158 : (.code yX9_years cX9_years 4 (some .int) : Cond) ∈ TT := tb3 158 rfl rfl
set_option maxRecDepth 20000 in
theorem t3_159 : (.constantLong RX9 264 6364136223846793005 : Cond) ∈ TT := tb3 159 (by decide +kernel) rfl
set_option maxRecDepth 20000 in
theorem t3_160 : (.constantLong RX9 266 1442695040888963407 : Cond) ∈ TT := tb3 160 (by decide +kernel) rfl
set_option maxRecDepth 20000 in
theorem t3_161 : (.constantLong RX9 268 16 : Cond) ∈ TT := tb3 161 (by decide +kernel) rfl
set_option maxRecDepth 20000 in
theorem t3_162 : (.methodLink RX9 270 yX9_passYear : Cond) ∈ TT := tb3 162 (by decide +kernel) rfl
set_option maxRecDepth 20000 in
theorem t3_164 : (.instanceMethod yX9_passYear : Cond) ∈ TT := tb3 164 (by decide +kernel) rfl
set_option maxRecDepth 20000 in
theorem t3_165 : (.code yX9_passYear cX9_passYear 2 none : Cond) ∈ TT := tb3 165 rfl rfl
set_option maxRecDepth 20000 in
theorem t3_166 : (.methodLink RL 119 yX9_keep : Cond) ∈ TT := tb3 166 (by decide +kernel) rfl
set_option maxRecDepth 20000 in
theorem t3_167 : (.instanceMethod yX9_keep : Cond) ∈ TT := tb3 167 (by decide +kernel) rfl
set_option maxRecDepth 20000 in
theorem t3_168 : (.selects RX9 yX9_keep yX9_keep : Cond) ∈ TT := tb3 168 (by decide +kernel) rfl
set_option maxRecDepth 20000 in
theorem t3_169 : (.code yX9_keep cX9_keep 2 (some .int) : Cond) ∈ TT := tb3 169 rfl rfl
set_option maxRecDepth 20000 in
theorem t3_170 : (.methodLink RX9 276 yX4_store : Cond) ∈ TT := tb3 170 (by decide +kernel) rfl
set_option maxRecDepth 20000 in
theorem t3_171 : (.instanceMethod yX4_store : Cond) ∈ TT := tb3 171 (by decide +kernel) rfl
set_option maxRecDepth 20000 in
theorem t3_172 : (.selects RX4 yX4_store yX4_store : Cond) ∈ TT := tb3 172 (by decide +kernel) rfl
set_option maxRecDepth 20000 in
theorem t3_173 : (.code yX4_store cX4_store 3 (some .boolean) : Cond) ∈ TT := tb3 173 rfl rfl
set_option maxRecDepth 20000 in
theorem t3_174 : (.methodLink RX4 20 yX4_has : Cond) ∈ TT := tb3 174 (by decide +kernel) rfl
set_option maxRecDepth 20000 in
theorem t3_175 : (.instanceMethod yX4_has : Cond) ∈ TT := tb3 175 (by decide +kernel) rfl
set_option maxRecDepth 20000 in
theorem t3_176 : (.selects RX4 yX4_has yX4_has : Cond) ∈ TT := tb3 176 (by decide +kernel) rfl
set_option maxRecDepth 20000 in
theorem t3_177 : (.code yX4_has cX4_has 2 (some .boolean) : Cond) ∈ TT := tb3 177 rfl rfl
set_option maxRecDepth 20000 in
theorem t3_178 : (.methodLink RX4 24 yX2_copyTo : Cond) ∈ TT := tb3 178 (by decide +kernel) rfl
set_option maxRecDepth 20000 in
theorem t3_179 : (.methodLink RL 123 yX9_again : Cond) ∈ TT := tb3 179 (by decide +kernel) rfl
set_option maxRecDepth 20000 in
theorem t3_180 : (.instanceMethod yX9_again : Cond) ∈ TT := tb3 180 (by decide +kernel) rfl
set_option maxRecDepth 20000 in
theorem t3_181 : (.selects RX9 yX9_again yX9_again : Cond) ∈ TT := tb3 181 (by decide +kernel) rfl
set_option maxRecDepth 20000 in
theorem t3_182 : (.code yX9_again cX9_again 2 (some .int) : Cond) ∈ TT := tb3 182 rfl rfl
set_option maxRecDepth 20000 in
theorem t3_183 : (.methodLink RX9 280 yX4_has : Cond) ∈ TT := tb3 183 (by decide +kernel) rfl
set_option maxRecDepth 20000 in
theorem t3_184 : (.methodLink RX9 281 yX4_restore : Cond) ∈ TT := tb3 184 (by decide +kernel) rfl
set_option maxRecDepth 20000 in
theorem t3_185 : (.instanceMethod yX4_restore : Cond) ∈ TT := tb3 185 (by decide +kernel) rfl
set_option maxRecDepth 20000 in
theorem t3_186 : (.selects RX4 yX4_restore yX4_restore : Cond) ∈ TT := tb3 186 (by decide +kernel) rfl
set_option maxRecDepth 20000 in
theorem t3_187 : (.code yX4_restore cX4_restore 3 (some .boolean) : Cond) ∈ TT := tb3 187 rfl rfl
set_option maxRecDepth 20000 in
theorem t3_188 : (.methodLink RX4 30 yX2_copyBack : Cond) ∈ TT := tb3 188 (by decide +kernel) rfl
set_option maxRecDepth 20000 in
theorem t3_189 : (.methodLink RL 127 yX9_count : Cond) ∈ TT := tb3 189 (by decide +kernel) rfl
set_option maxRecDepth 20000 in
theorem t3_190 : (.instanceMethod yX9_count : Cond) ∈ TT := tb3 190 (by decide +kernel) rfl
set_option maxRecDepth 20000 in
theorem t3_191 : (.selects RX9 yX9_count yX9_count : Cond) ∈ TT := tb3 191 (by decide +kernel) rfl
set_option maxRecDepth 20000 in
theorem t3_192 : (.code yX9_count cX9_count 2 (some .int) : Cond) ∈ TT := tb3 192 rfl rfl
set_option maxRecDepth 20000 in
theorem t3_193 : (.methodLink RX9 284 yX6_placesSeen : Cond) ∈ TT := tb3 193 (by decide +kernel) rfl
set_option maxRecDepth 20000 in
theorem t3_194 : (.instanceMethod yX6_placesSeen : Cond) ∈ TT := tb3 194 (by decide +kernel) rfl
set_option maxRecDepth 20000 in
theorem t3_195 : (.selects RX6 yX6_placesSeen yX6_placesSeen : Cond) ∈ TT := tb3 195 (by decide +kernel) rfl
set_option maxRecDepth 20000 in
theorem t3_196 : (.code yX6_placesSeen cX6_placesSeen 4 (some .int) : Cond) ∈ TT := tb3 196 rfl rfl
set_option maxRecDepth 20000 in
theorem t3_197 : (.classLink RL 10 RX10 : Cond) ∈ TT := tb3 197 (by decide +kernel) rfl
set_option maxRecDepth 20000 in
theorem t3_198 : (.instantiable RX10 21 : Cond) ∈ TT := tb3 198 (by decide +kernel) rfl
set_option maxRecDepth 20000 in
theorem t3_199 : (.methodLink RL 12 yX10_init : Cond) ∈ TT := tb3 199 (by decide +kernel) rfl
set_option maxRecDepth 20000 in
theorem t3_200 : (.instanceMethod yX10_init : Cond) ∈ TT := tb3 200 (by decide +kernel) rfl
set_option maxRecDepth 20000 in
theorem t3_201 : (.code yX10_init cX10_init 1 none : Cond) ∈ TT := tb3 201 rfl rfl
set_option maxRecDepth 20000 in
theorem t3_202 : (.methodLink RX10 1 objectInit : Cond) ∈ TT := tb3 202 (by decide +kernel) rfl
set_option maxRecDepth 20000 in
theorem t3_203 : (.fieldLink RX10 75 "FanBladesModel" "blades" "I" : Cond) ∈ TT := tb3 203 (by decide +kernel) rfl
set_option maxRecDepth 20000 in
theorem t3_204 : (.fieldLink RX10 7 "FanBladesModel" "kind" "[I" : Cond) ∈ TT := tb3 204 (by decide +kernel) rfl
set_option maxRecDepth 20000 in
theorem t3_205 : (.fieldLink RX10 13 "FanBladesModel" "letter" "[I" : Cond) ∈ TT := tb3 205 (by decide +kernel) rfl
set_option maxRecDepth 20000 in
theorem t3_206 : (.fieldLink RX10 16 "FanBladesModel" "now" "[I" : Cond) ∈ TT := tb3 206 (by decide +kernel) rfl
set_option maxRecDepth 20000 in
theorem t3_207 : (.fieldLink RX10 19 "FanBladesModel" "readKind" "[I" : Cond) ∈ TT := tb3 207 (by decide +kernel) rfl
set_option maxRecDepth 20000 in
theorem t3_208 : (.fieldLink RX10 22 "FanBladesModel" "readLetter" "[I" : Cond) ∈ TT := tb3 208 (by decide +kernel) rfl
set_option maxRecDepth 20000 in
theorem t3_209 : (.fieldLink RX10 60 "FanBladesModel" "readBlades" "I" : Cond) ∈ TT := tb3 209 (by decide +kernel) rfl
set_option maxRecDepth 20000 in
theorem t3_210 : (.fieldLink RX10 25 "FanBladesModel" "text" "[I" : Cond) ∈ TT := tb3 210 (by decide +kernel) rfl
set_option maxRecDepth 20000 in
theorem t3_211 : (.fieldLink RX10 56 "FanBladesModel" "length" "I" : Cond) ∈ TT := tb3 211 (by decide +kernel) rfl
set_option maxRecDepth 20000 in
theorem t3_212 : (.fieldLink RX10 94 "FanBladesModel" "wordMany" "I" : Cond) ∈ TT := tb3 212 (by decide +kernel) rfl
set_option maxRecDepth 20000 in
theorem t3_213 : (.fieldLink RX10 28 "FanBladesModel" "word" "[I" : Cond) ∈ TT := tb3 213 (by decide +kernel) rfl
set_option maxRecDepth 20000 in
theorem t3_214 : (.fieldLink RX10 78 "FanBladesModel" "acts" "I" : Cond) ∈ TT := tb3 214 (by decide +kernel) rfl
set_option maxRecDepth 20000 in
theorem t3_215 : (.fieldLink RX10 136 "FanBladesModel" "next" "I" : Cond) ∈ TT := tb3 215 (by decide +kernel) rfl
set_option maxRecDepth 20000 in
theorem t3_216 : (.fieldLink RX10 31 "FanBladesModel" "row" "[I" : Cond) ∈ TT := tb3 216 (by decide +kernel) rfl
set_option maxRecDepth 20000 in
theorem t3_217 : (.fieldLink RX10 196 "FanBladesModel" "spied" "I" : Cond) ∈ TT := tb3 217 (by decide +kernel) rfl
set_option maxRecDepth 20000 in
theorem t3_218 : (.fieldLink RX10 34 "FanBladesModel" "spiedAt" "[I" : Cond) ∈ TT := tb3 218 (by decide +kernel) rfl
set_option maxRecDepth 20000 in
theorem t3_219 : (.fieldLink RX10 37 "FanBladesModel" "spiedLetter" "[I" : Cond) ∈ TT := tb3 219 (by decide +kernel) rfl
set_option maxRecDepth 20000 in
theorem t3_220 : (.fieldLink RX10 40 "FanBladesModel" "spiedSeen" "[I" : Cond) ∈ TT := tb3 220 (by decide +kernel) rfl
set_option maxRecDepth 20000 in
theorem t3_221 : (.fieldLink RX10 223 "FanBladesModel" "seed" "J" : Cond) ∈ TT := tb3 221 (by decide +kernel) rfl
set_option maxRecDepth 20000 in
theorem t3_222 : (.fieldLink RX10 43 "FanBladesModel" "isKept" "[Z" : Cond) ∈ TT := tb3 222 (by decide +kernel) rfl
set_option maxRecDepth 20000 in
theorem t3_223 : (.fieldLink RX10 47 "FanBladesModel" "kept" "[I" : Cond) ∈ TT := tb3 223 (by decide +kernel) rfl
set_option maxRecDepth 20000 in
theorem t3_224 : (.lays RX10 "FanBladesModel" "blades" "I" : Cond) ∈ TT := tb3 224 (by decide +kernel) rfl
set_option maxRecDepth 20000 in
theorem t3_226 : (.laysFinal RX10 "FanBladesModel" "kind" "[I" : Cond) ∈ TT := tb3 226 (by decide +kernel) rfl
set_option maxRecDepth 20000 in
theorem t3_228 : (.laysFinal RX10 "FanBladesModel" "letter" "[I" : Cond) ∈ TT := tb3 228 (by decide +kernel) rfl
set_option maxRecDepth 20000 in
theorem t3_230 : (.laysFinal RX10 "FanBladesModel" "now" "[I" : Cond) ∈ TT := tb3 230 (by decide +kernel) rfl
set_option maxRecDepth 20000 in
theorem t3_232 : (.laysFinal RX10 "FanBladesModel" "readKind" "[I" : Cond) ∈ TT := tb3 232 (by decide +kernel) rfl
set_option maxRecDepth 20000 in
theorem t3_234 : (.laysFinal RX10 "FanBladesModel" "readLetter" "[I" : Cond) ∈ TT := tb3 234 (by decide +kernel) rfl
set_option maxRecDepth 20000 in
theorem t3_236 : (.lays RX10 "FanBladesModel" "readBlades" "I" : Cond) ∈ TT := tb3 236 (by decide +kernel) rfl
set_option maxRecDepth 20000 in
theorem t3_238 : (.laysFinal RX10 "FanBladesModel" "text" "[I" : Cond) ∈ TT := tb3 238 (by decide +kernel) rfl
set_option maxRecDepth 20000 in
theorem t4_0 : (.lays RX10 "FanBladesModel" "length" "I" : Cond) ∈ TT := tb4 0 (by decide +kernel) rfl
set_option maxRecDepth 20000 in
theorem t4_2 : (.lays RX10 "FanBladesModel" "wordMany" "I" : Cond) ∈ TT := tb4 2 (by decide +kernel) rfl
set_option maxRecDepth 20000 in
theorem t4_4 : (.laysFinal RX10 "FanBladesModel" "word" "[I" : Cond) ∈ TT := tb4 4 (by decide +kernel) rfl
set_option maxRecDepth 20000 in
theorem t4_6 : (.lays RX10 "FanBladesModel" "acts" "I" : Cond) ∈ TT := tb4 6 (by decide +kernel) rfl
set_option maxRecDepth 20000 in
theorem t4_8 : (.lays RX10 "FanBladesModel" "next" "I" : Cond) ∈ TT := tb4 8 (by decide +kernel) rfl
set_option maxRecDepth 20000 in
theorem t4_10 : (.laysFinal RX10 "FanBladesModel" "row" "[I" : Cond) ∈ TT := tb4 10 (by decide +kernel) rfl
set_option maxRecDepth 20000 in
theorem t4_12 : (.lays RX10 "FanBladesModel" "spied" "I" : Cond) ∈ TT := tb4 12 (by decide +kernel) rfl
set_option maxRecDepth 20000 in
theorem t4_14 : (.laysFinal RX10 "FanBladesModel" "spiedAt" "[I" : Cond) ∈ TT := tb4 14 (by decide +kernel) rfl
set_option maxRecDepth 20000 in
theorem t4_16 : (.laysFinal RX10 "FanBladesModel" "spiedLetter" "[I" : Cond) ∈ TT := tb4 16 (by decide +kernel) rfl
set_option maxRecDepth 20000 in
theorem t4_18 : (.laysFinal RX10 "FanBladesModel" "spiedSeen" "[I" : Cond) ∈ TT := tb4 18 (by decide +kernel) rfl
set_option maxRecDepth 20000 in
theorem t4_20 : (.lays RX10 "FanBladesModel" "seed" "J" : Cond) ∈ TT := tb4 20 (by decide +kernel) rfl
set_option maxRecDepth 20000 in
theorem t4_22 : (.laysFinal RX10 "FanBladesModel" "isKept" "[Z" : Cond) ∈ TT := tb4 22 (by decide +kernel) rfl
set_option maxRecDepth 20000 in
theorem t4_24 : (.laysFinal RX10 "FanBladesModel" "kept" "[I" : Cond) ∈ TT := tb4 24 (by decide +kernel) rfl
set_option maxRecDepth 20000 in
theorem t4_27 : (.methodLink RL 17 yX10_write : Cond) ∈ TT := tb4 27 (by decide +kernel) rfl
set_option maxRecDepth 20000 in
theorem t4_28 : (.instanceMethod yX10_write : Cond) ∈ TT := tb4 28 (by decide +kernel) rfl
set_option maxRecDepth 20000 in
theorem t4_29 : (.selects RX10 yX10_write yX10_write : Cond) ∈ TT := tb4 29 (by decide +kernel) rfl
set_option maxRecDepth 20000 in
theorem t4_30 : (.code yX10_write cX10_write 2 (some .int) : Cond) ∈ TT := tb4 30 rfl rfl
set_option maxRecDepth 20000 in
theorem t4_31 : (.constantLong RX10 50 255 : Cond) ∈ TT := tb4 31 (by decide +kernel) rfl
set_option maxRecDepth 20000 in
theorem t4_32 : (.methodLink RX10 52 yX10_in : Cond) ∈ TT := tb4 32 (by decide +kernel) rfl
set_option maxRecDepth 20000 in
theorem t4_33 : (.static yX10_in : Cond) ∈ TT := tb4 33 (by decide +kernel) rfl
set_option maxRecDepth 20000 in
theorem t4_34 : (.code yX10_in cX10_in 6 (some .boolean) : Cond) ∈ TT := tb4 34 rfl rfl
set_option maxRecDepth 20000 in
theorem t4_35 : (.methodLink RL 22 yX10_wipe : Cond) ∈ TT := tb4 35 (by decide +kernel) rfl
set_option maxRecDepth 20000 in
theorem t4_36 : (.instanceMethod yX10_wipe : Cond) ∈ TT := tb4 36 (by decide +kernel) rfl
set_option maxRecDepth 20000 in
theorem t4_37 : (.selects RX10 yX10_wipe yX10_wipe : Cond) ∈ TT := tb4 37 (by decide +kernel) rfl
set_option maxRecDepth 20000 in
theorem t4_38 : (.code yX10_wipe cX10_wipe 2 (some .int) : Cond) ∈ TT := tb4 38 rfl rfl
set_option maxRecDepth 20000 in
theorem t4_39 : (.methodLink RL 26 yX10_fault : Cond) ∈ TT := tb4 39 (by decide +kernel) rfl
set_option maxRecDepth 20000 in
theorem t4_40 : (.instanceMethod yX10_fault : Cond) ∈ TT := tb4 40 (by decide +kernel) rfl
set_option maxRecDepth 20000 in
theorem t4_41 : (.selects RX10 yX10_fault yX10_fault : Cond) ∈ TT := tb4 41 (by decide +kernel) rfl
set_option maxRecDepth 20000 in
theorem t4_42 : (.code yX10_fault cX10_fault 1 (some .int) : Cond) ∈ TT := tb4 42 rfl rfl
set_option maxRecDepth 20000 in
theorem t4_43 : (.methodLink RX10 71 yX10_readText : Cond) ∈ TT := tb4 43 (by decide +kernel) rfl
set_option maxRecDepth 20000 in
theorem t4_45 : (.instanceMethod yX10_readText : Cond) ∈ TT := tb4 45 (by decide +kernel) rfl
set_option maxRecDepth 20000 in
theorem t4_46 : (.code yX10_readText cX10_readText 4 (some .int) : Cond) ∈ TT := tb4 46 rfl rfl
set_option maxRecDepth 20000 in
theorem t4_47 : (.constantLong RX10 63 48 : Cond) ∈ TT := tb4 47 (by decide +kernel) rfl
set_option maxRecDepth 20000 in
theorem t4_48 : (.constantLong RX10 65 51 : Cond) ∈ TT := tb4 48 (by decide +kernel) rfl
set_option maxRecDepth 20000 in
theorem t4_49 : (.constantLong RX10 67 97 : Cond) ∈ TT := tb4 49 (by decide +kernel) rfl
set_option maxRecDepth 20000 in
theorem t4_50 : (.constantLong RX10 69 122 : Cond) ∈ TT := tb4 50 (by decide +kernel) rfl
set_option maxRecDepth 20000 in
theorem t4_51 : (.methodLink RL 30 yX10_fan : Cond) ∈ TT := tb4 51 (by decide +kernel) rfl
set_option maxRecDepth 20000 in
theorem t4_52 : (.instanceMethod yX10_fan : Cond) ∈ TT := tb4 52 (by decide +kernel) rfl
set_option maxRecDepth 20000 in
theorem t4_53 : (.selects RX10 yX10_fan yX10_fan : Cond) ∈ TT := tb4 53 (by decide +kernel) rfl
set_option maxRecDepth 20000 in
theorem t4_54 : (.code yX10_fan cX10_fan 2 (some .int) : Cond) ∈ TT := tb4 54 rfl rfl
set_option maxRecDepth 20000 in
theorem t4_55 : (.methodLink RL 37 yX10_word : Cond) ∈ TT := tb4 55 (by decide +kernel) rfl
set_option maxRecDepth 20000 in
theorem t4_56 : (.instanceMethod yX10_word : Cond) ∈ TT := tb4 56 (by decide +kernel) rfl
set_option maxRecDepth 20000 in
theorem t4_57 : (.selects RX10 yX10_word yX10_word : Cond) ∈ TT := tb4 57 (by decide +kernel) rfl
set_option maxRecDepth 20000 in
theorem t4_58 : (.code yX10_word cX10_word 6 (some .int) : Cond) ∈ TT := tb4 58 rfl rfl
set_option maxRecDepth 20000 in
theorem t4_59 : (.constantLong RX10 86 5 : Cond) ∈ TT := tb4 59 (by decide +kernel) rfl
set_option maxRecDepth 20000 in
theorem t4_60 : (.methodLink RX10 88 yX10_hundredTo : Cond) ∈ TT := tb4 60 (by decide +kernel) rfl
set_option maxRecDepth 20000 in
theorem t4_61 : (.static yX10_hundredTo : Cond) ∈ TT := tb4 61 (by decide +kernel) rfl
set_option maxRecDepth 20000 in
theorem t4_62 : (.code yX10_hundredTo cX10_hundredTo 4 (some .long) : Cond) ∈ TT := tb4 62 rfl rfl
set_option maxRecDepth 20000 in
theorem t4_63 : (.constantLong RX10 84 100 : Cond) ∈ TT := tb4 63 (by decide +kernel) rfl
set_option maxRecDepth 20000 in
theorem t4_64 : (.constantLong RX10 92 25 : Cond) ∈ TT := tb4 64 (by decide +kernel) rfl
set_option maxRecDepth 20000 in
theorem t4_65 : (.methodLink RL 42 yX10_blade : Cond) ∈ TT := tb4 65 (by decide +kernel) rfl
set_option maxRecDepth 20000 in
theorem t4_66 : (.instanceMethod yX10_blade : Cond) ∈ TT := tb4 66 (by decide +kernel) rfl
set_option maxRecDepth 20000 in
theorem t4_67 : (.selects RX10 yX10_blade yX10_blade : Cond) ∈ TT := tb4 67 (by decide +kernel) rfl
set_option maxRecDepth 20000 in
theorem t4_68 : (.code yX10_blade cX10_blade 3 (some .int) : Cond) ∈ TT := tb4 68 rfl rfl
set_option maxRecDepth 20000 in
theorem t4_69 : (.methodLink RX10 126 yX10_isBlade : Cond) ∈ TT := tb4 69 (by decide +kernel) rfl
set_option maxRecDepth 20000 in
theorem t4_71 : (.instanceMethod yX10_isBlade : Cond) ∈ TT := tb4 71 (by decide +kernel) rfl
set_option maxRecDepth 20000 in
theorem t4_72 : (.code yX10_isBlade cX10_isBlade 2 (some .boolean) : Cond) ∈ TT := tb4 72 rfl rfl
set_option maxRecDepth 20000 in
theorem t4_73 : (.methodLink RX10 97 yX10_beginOf : Cond) ∈ TT := tb4 73 (by decide +kernel) rfl
set_option maxRecDepth 20000 in
theorem t4_75 : (.instanceMethod yX10_beginOf : Cond) ∈ TT := tb4 75 (by decide +kernel) rfl
set_option maxRecDepth 20000 in
theorem t4_76 : (.code yX10_beginOf cX10_beginOf 5 (some .int) : Cond) ∈ TT := tb4 76 rfl rfl
set_option maxRecDepth 20000 in
theorem t4_77 : (.methodLink RX10 101 yX10_wideOf : Cond) ∈ TT := tb4 77 (by decide +kernel) rfl
set_option maxRecDepth 20000 in
theorem t4_79 : (.instanceMethod yX10_wideOf : Cond) ∈ TT := tb4 79 (by decide +kernel) rfl
set_option maxRecDepth 20000 in
theorem t4_80 : (.code yX10_wideOf cX10_wideOf 2 (some .int) : Cond) ∈ TT := tb4 80 rfl rfl
set_option maxRecDepth 20000 in
theorem t4_81 : (.methodLink RX10 130 yX10_cellsSeen : Cond) ∈ TT := tb4 81 (by decide +kernel) rfl
set_option maxRecDepth 20000 in
theorem t4_83 : (.instanceMethod yX10_cellsSeen : Cond) ∈ TT := tb4 83 (by decide +kernel) rfl
set_option maxRecDepth 20000 in
theorem t4_84 : (.code yX10_cellsSeen cX10_cellsSeen 6 (some .int) : Cond) ∈ TT := tb4 84 rfl rfl
set_option maxRecDepth 20000 in
theorem t4_85 : (.methodLink RX10 115 yX10_bladeAt : Cond) ∈ TT := tb4 85 (by decide +kernel) rfl
set_option maxRecDepth 20000 in
theorem t4_87 : (.instanceMethod yX10_bladeAt : Cond) ∈ TT := tb4 87 (by decide +kernel) rfl
set_option maxRecDepth 20000 in
theorem t4_88 : (.code yX10_bladeAt cX10_bladeAt 8 (some .int) : Cond) ∈ TT := tb4 88 rfl rfl
set_option maxRecDepth 20000 in
theorem t4_89 : (.methodLink RX10 105 yX10_has : Cond) ∈ TT := tb4 89 (by decide +kernel) rfl
set_option maxRecDepth 20000 in
theorem t4_90 : (.static yX10_has : Cond) ∈ TT := tb4 90 (by decide +kernel) rfl
set_option maxRecDepth 20000 in
theorem t4_91 : (.code yX10_has cX10_has 2 (some .boolean) : Cond) ∈ TT := tb4 91 rfl rfl
set_option maxRecDepth 20000 in
theorem t4_92 : (.methodLink RX10 109 yX10_cellAt : Cond) ∈ TT := tb4 92 (by decide +kernel) rfl
set_option maxRecDepth 20000 in
theorem t4_94 : (.instanceMethod yX10_cellAt : Cond) ∈ TT := tb4 94 (by decide +kernel) rfl
set_option maxRecDepth 20000 in
theorem t4_95 : (.code yX10_cellAt cX10_cellAt 5 (some .int) : Cond) ∈ TT := tb4 95 rfl rfl
set_option maxRecDepth 20000 in
theorem t4_96 : (.methodLink RX10 133 yX10_isGap : Cond) ∈ TT := tb4 96 (by decide +kernel) rfl
set_option maxRecDepth 20000 in
theorem t4_98 : (.instanceMethod yX10_isGap : Cond) ∈ TT := tb4 98 (by decide +kernel) rfl
set_option maxRecDepth 20000 in
theorem t4_99 : (.code yX10_isGap cX10_isGap 2 (some .boolean) : Cond) ∈ TT := tb4 99 rfl rfl
set_option maxRecDepth 20000 in
theorem t4_100 : (.methodLink RX10 81 yX10_gapMany : Cond) ∈ TT := tb4 100 (by decide +kernel) rfl
set_option maxRecDepth 20000 in
theorem t4_102 : (.instanceMethod yX10_gapMany : Cond) ∈ TT := tb4 102 (by decide +kernel) rfl
set_option maxRecDepth 20000 in
theorem t4_103 : (.code yX10_gapMany cX10_gapMany 1 (some .int) : Cond) ∈ TT := tb4 103 rfl rfl
set_option maxRecDepth 20000 in
theorem t4_104 : (.methodLink RL 47 yX10_look : Cond) ∈ TT := tb4 104 (by decide +kernel) rfl
set_option maxRecDepth 20000 in
theorem t4_105 : (.instanceMethod yX10_look : Cond) ∈ TT := tb4 105 (by decide +kernel) rfl
set_option maxRecDepth 20000 in
theorem t4_106 : (.selects RX10 yX10_look yX10_look : Cond) ∈ TT := tb4 106 (by decide +kernel) rfl
set_option maxRecDepth 20000 in
theorem t4_107 : (.code yX10_look cX10_look 5 (some .int) : Cond) ∈ TT := tb4 107 rfl rfl
set_option maxRecDepth 20000 in
theorem t4_108 : (.constantLong RX10 113 27 : Cond) ∈ TT := tb4 108 (by decide +kernel) rfl
set_option maxRecDepth 20000 in
theorem t4_109 : (.methodLink RX10 119 yX10_letterAt : Cond) ∈ TT := tb4 109 (by decide +kernel) rfl
set_option maxRecDepth 20000 in
theorem t4_111 : (.instanceMethod yX10_letterAt : Cond) ∈ TT := tb4 111 (by decide +kernel) rfl
set_option maxRecDepth 20000 in
theorem t4_112 : (.code yX10_letterAt cX10_letterAt 6 (some .int) : Cond) ∈ TT := tb4 112 rfl rfl
set_option maxRecDepth 20000 in
theorem t4_113 : (.methodLink RL 51 yX10_spread : Cond) ∈ TT := tb4 113 (by decide +kernel) rfl
set_option maxRecDepth 20000 in
theorem t4_114 : (.instanceMethod yX10_spread : Cond) ∈ TT := tb4 114 (by decide +kernel) rfl
set_option maxRecDepth 20000 in
theorem t4_115 : (.selects RX10 yX10_spread yX10_spread : Cond) ∈ TT := tb4 115 (by decide +kernel) rfl
set_option maxRecDepth 20000 in
theorem t4_116 : (.code yX10_spread cX10_spread 2 (some .int) : Cond) ∈ TT := tb4 116 rfl rfl
set_option maxRecDepth 20000 in
theorem t4_117 : (.methodLink RX10 142 yX10_canSpread : Cond) ∈ TT := tb4 117 (by decide +kernel) rfl
set_option maxRecDepth 20000 in
theorem t4_119 : (.instanceMethod yX10_canSpread : Cond) ∈ TT := tb4 119 (by decide +kernel) rfl
set_option maxRecDepth 20000 in
theorem t4_120 : (.code yX10_canSpread cX10_canSpread 3 (some .boolean) : Cond) ∈ TT := tb4 120 rfl rfl
set_option maxRecDepth 20000 in
theorem t4_121 : (.methodLink RX10 139 yX10_isFree : Cond) ∈ TT := tb4 121 (by decide +kernel) rfl
set_option maxRecDepth 20000 in
theorem t4_123 : (.instanceMethod yX10_isFree : Cond) ∈ TT := tb4 123 (by decide +kernel) rfl
set_option maxRecDepth 20000 in
theorem t4_124 : (.code yX10_isFree cX10_isFree 2 (some .boolean) : Cond) ∈ TT := tb4 124 rfl rfl
set_option maxRecDepth 20000 in
theorem t4_125 : (.methodLink RX10 145 yX10_keepAct : Cond) ∈ TT := tb4 125 (by decide +kernel) rfl
set_option maxRecDepth 20000 in
theorem t4_127 : (.instanceMethod yX10_keepAct : Cond) ∈ TT := tb4 127 (by decide +kernel) rfl
set_option maxRecDepth 20000 in
theorem t4_128 : (.code yX10_keepAct cX10_keepAct 2 none : Cond) ∈ TT := tb4 128 rfl rfl
set_option maxRecDepth 20000 in
theorem t4_129 : (.methodLink RL 55 yX10_fold : Cond) ∈ TT := tb4 129 (by decide +kernel) rfl
set_option maxRecDepth 20000 in
theorem t4_130 : (.instanceMethod yX10_fold : Cond) ∈ TT := tb4 130 (by decide +kernel) rfl
set_option maxRecDepth 20000 in
theorem t4_131 : (.selects RX10 yX10_fold yX10_fold : Cond) ∈ TT := tb4 131 (by decide +kernel) rfl
set_option maxRecDepth 20000 in
theorem t4_132 : (.code yX10_fold cX10_fold 2 (some .int) : Cond) ∈ TT := tb4 132 rfl rfl
set_option maxRecDepth 20000 in
theorem t4_133 : (.methodLink RX10 148 yX10_canFold : Cond) ∈ TT := tb4 133 (by decide +kernel) rfl
set_option maxRecDepth 20000 in
theorem t4_135 : (.instanceMethod yX10_canFold : Cond) ∈ TT := tb4 135 (by decide +kernel) rfl
set_option maxRecDepth 20000 in
theorem t4_136 : (.code yX10_canFold cX10_canFold 3 (some .boolean) : Cond) ∈ TT := tb4 136 rfl rfl
set_option maxRecDepth 20000 in
theorem t4_137 : (.methodLink RL 59 yX10_fling : Cond) ∈ TT := tb4 137 (by decide +kernel) rfl
set_option maxRecDepth 20000 in
theorem t4_138 : (.instanceMethod yX10_fling : Cond) ∈ TT := tb4 138 (by decide +kernel) rfl
set_option maxRecDepth 20000 in
theorem t4_139 : (.selects RX10 yX10_fling yX10_fling : Cond) ∈ TT := tb4 139 (by decide +kernel) rfl
set_option maxRecDepth 20000 in
theorem t4_140 : (.code yX10_fling cX10_fling 1 (some .int) : Cond) ∈ TT := tb4 140 rfl rfl
set_option maxRecDepth 20000 in
theorem t4_141 : (.methodLink RX10 151 yX10_flingOn : Cond) ∈ TT := tb4 141 (by decide +kernel) rfl
set_option maxRecDepth 20000 in
theorem t4_143 : (.instanceMethod yX10_flingOn : Cond) ∈ TT := tb4 143 (by decide +kernel) rfl
set_option maxRecDepth 20000 in
theorem t4_144 : (.code yX10_flingOn cX10_flingOn 5 (some .int) : Cond) ∈ TT := tb4 144 rfl rfl
set_option maxRecDepth 20000 in
theorem t4_145 : (.methodLink RL 63 yX10_snap : Cond) ∈ TT := tb4 145 (by decide +kernel) rfl
set_option maxRecDepth 20000 in
theorem t4_146 : (.instanceMethod yX10_snap : Cond) ∈ TT := tb4 146 (by decide +kernel) rfl
set_option maxRecDepth 20000 in
theorem t4_147 : (.selects RX10 yX10_snap yX10_snap : Cond) ∈ TT := tb4 147 (by decide +kernel) rfl
set_option maxRecDepth 20000 in
theorem t4_148 : (.code yX10_snap cX10_snap 2 (some .int) : Cond) ∈ TT := tb4 148 rfl rfl
set_option maxRecDepth 20000 in
theorem t4_149 : (.methodLink RX10 154 yX10_gapsOf : Cond) ∈ TT := tb4 149 (by decide +kernel) rfl
set_option maxRecDepth 20000 in
theorem t4_151 : (.instanceMethod yX10_gapsOf : Cond) ∈ TT := tb4 151 (by decide +kernel) rfl
set_option maxRecDepth 20000 in
theorem t4_152 : (.code yX10_gapsOf cX10_gapsOf 4 (some .int) : Cond) ∈ TT := tb4 152 rfl rfl
set_option maxRecDepth 20000 in
theorem t4_153 : (.methodLink RX10 157 yX10_snapOn : Cond) ∈ TT := tb4 153 (by decide +kernel) rfl
set_option maxRecDepth 20000 in
theorem t4_155 : (.instanceMethod yX10_snapOn : Cond) ∈ TT := tb4 155 (by decide +kernel) rfl
set_option maxRecDepth 20000 in
theorem t4_156 : (.code yX10_snapOn cX10_snapOn 3 none : Cond) ∈ TT := tb4 156 rfl rfl
set_option maxRecDepth 20000 in
theorem t4_157 : (.methodLink RL 67 yX10_undo : Cond) ∈ TT := tb4 157 (by decide +kernel) rfl
set_option maxRecDepth 20000 in
theorem t4_158 : (.instanceMethod yX10_undo : Cond) ∈ TT := tb4 158 (by decide +kernel) rfl
set_option maxRecDepth 20000 in
theorem t4_159 : (.selects RX10 yX10_undo yX10_undo : Cond) ∈ TT := tb4 159 (by decide +kernel) rfl
set_option maxRecDepth 20000 in
theorem t4_160 : (.code yX10_undo cX10_undo 2 (some .int) : Cond) ∈ TT := tb4 160 rfl rfl
set_option maxRecDepth 20000 in
theorem t4_161 : (.methodLink RL 71 yX10_reads : Cond) ∈ TT := tb4 161 (by decide +kernel) rfl
set_option maxRecDepth 20000 in
theorem t4_162 : (.instanceMethod yX10_reads : Cond) ∈ TT := tb4 162 (by decide +kernel) rfl
set_option maxRecDepth 20000 in
theorem t4_163 : (.selects RX10 yX10_reads yX10_reads : Cond) ∈ TT := tb4 163 (by decide +kernel) rfl
set_option maxRecDepth 20000 in
theorem t4_164 : (.code yX10_reads cX10_reads 2 (some .int) : Cond) ∈ TT := tb4 164 rfl rfl
set_option maxRecDepth 20000 in
theorem t4_165 : (.methodLink RX10 161 yX10_readsOn : Cond) ∈ TT := tb4 165 (by decide +kernel) rfl
set_option maxRecDepth 20000 in
theorem t4_167 : (.instanceMethod yX10_readsOn : Cond) ∈ TT := tb4 167 (by decide +kernel) rfl
set_option maxRecDepth 20000 in
theorem t4_168 : (.code yX10_readsOn cX10_readsOn 6 (some .int) : Cond) ∈ TT := tb4 168 rfl rfl
set_option maxRecDepth 20000 in
theorem t4_169 : (.methodLink RX10 122 yX10_isReadAt : Cond) ∈ TT := tb4 169 (by decide +kernel) rfl
set_option maxRecDepth 20000 in
theorem t4_171 : (.instanceMethod yX10_isReadAt : Cond) ∈ TT := tb4 171 (by decide +kernel) rfl
set_option maxRecDepth 20000 in
theorem t4_172 : (.code yX10_isReadAt cX10_isReadAt 7 (some .boolean) : Cond) ∈ TT := tb4 172 rfl rfl
set_option maxRecDepth 20000 in
theorem t4_173 : (.methodLink RL 75 yX10_open : Cond) ∈ TT := tb4 173 (by decide +kernel) rfl
set_option maxRecDepth 20000 in
theorem t4_174 : (.instanceMethod yX10_open : Cond) ∈ TT := tb4 174 (by decide +kernel) rfl
set_option maxRecDepth 20000 in
theorem t4_175 : (.selects RX10 yX10_open yX10_open : Cond) ∈ TT := tb4 175 (by decide +kernel) rfl
set_option maxRecDepth 20000 in
theorem t4_176 : (.code yX10_open cX10_open 8 (some .int) : Cond) ∈ TT := tb4 176 rfl rfl
set_option maxRecDepth 20000 in
theorem t4_177 : (.methodLink RX10 164 yX10_waysMany : Cond) ∈ TT := tb4 177 (by decide +kernel) rfl
set_option maxRecDepth 20000 in
theorem t4_179 : (.instanceMethod yX10_waysMany : Cond) ∈ TT := tb4 179 (by decide +kernel) rfl
set_option maxRecDepth 20000 in
theorem t4_180 : (.code yX10_waysMany cX10_waysMany 3 (some .int) : Cond) ∈ TT := tb4 180 rfl rfl
set_option maxRecDepth 20000 in
theorem t4_181 : (.methodLink RX10 167 yX10_layWay : Cond) ∈ TT := tb4 181 (by decide +kernel) rfl
set_option maxRecDepth 20000 in
theorem t4_183 : (.instanceMethod yX10_layWay : Cond) ∈ TT := tb4 183 (by decide +kernel) rfl
set_option maxRecDepth 20000 in
theorem t4_184 : (.code yX10_layWay cX10_layWay 5 (some .boolean) : Cond) ∈ TT := tb4 184 rfl rfl
set_option maxRecDepth 20000 in
theorem t4_185 : (.methodLink RX10 170 yX10_farOf : Cond) ∈ TT := tb4 185 (by decide +kernel) rfl
set_option maxRecDepth 20000 in
theorem t4_187 : (.instanceMethod yX10_farOf : Cond) ∈ TT := tb4 187 (by decide +kernel) rfl
set_option maxRecDepth 20000 in
theorem t4_188 : (.code yX10_farOf cX10_farOf 4 (some .int) : Cond) ∈ TT := tb4 188 rfl rfl
set_option maxRecDepth 20000 in
theorem t4_189 : (.methodLink RX10 173 yX10_figuresOf : Cond) ∈ TT := tb4 189 (by decide +kernel) rfl
set_option maxRecDepth 20000 in
theorem t4_191 : (.instanceMethod yX10_figuresOf : Cond) ∈ TT := tb4 191 (by decide +kernel) rfl
set_option maxRecDepth 20000 in
theorem t4_192 : (.code yX10_figuresOf cX10_figuresOf 4 (some .int) : Cond) ∈ TT := tb4 192 rfl rfl
set_option maxRecDepth 20000 in
theorem t4_193 : (.methodLink RL 79 yX10_most : Cond) ∈ TT := tb4 193 (by decide +kernel) rfl
set_option maxRecDepth 20000 in
theorem t4_194 : (.instanceMethod yX10_most : Cond) ∈ TT := tb4 194 (by decide +kernel) rfl
set_option maxRecDepth 20000 in
theorem t4_195 : (.selects RX10 yX10_most yX10_most : Cond) ∈ TT := tb4 195 (by decide +kernel) rfl
set_option maxRecDepth 20000 in
theorem t4_196 : (.code yX10_most cX10_most 7 (some .int) : Cond) ∈ TT := tb4 196 rfl rfl
set_option maxRecDepth 20000 in
theorem t4_197 : (.methodLink RX10 176 yX10_timesSeen : Cond) ∈ TT := tb4 197 (by decide +kernel) rfl
set_option maxRecDepth 20000 in
theorem t4_199 : (.instanceMethod yX10_timesSeen : Cond) ∈ TT := tb4 199 (by decide +kernel) rfl
set_option maxRecDepth 20000 in
theorem t4_200 : (.code yX10_timesSeen cX10_timesSeen 4 (some .int) : Cond) ∈ TT := tb4 200 rfl rfl
set_option maxRecDepth 20000 in
theorem t4_201 : (.methodLink RL 83 yX10_judge : Cond) ∈ TT := tb4 201 (by decide +kernel) rfl
set_option maxRecDepth 20000 in
theorem t4_202 : (.instanceMethod yX10_judge : Cond) ∈ TT := tb4 202 (by decide +kernel) rfl
set_option maxRecDepth 20000 in
theorem t4_203 : (.selects RX10 yX10_judge yX10_judge : Cond) ∈ TT := tb4 203 (by decide +kernel) rfl
set_option maxRecDepth 20000 in
theorem t4_204 : (.code yX10_judge cX10_judge 6 (some .int) : Cond) ∈ TT := tb4 204 rfl rfl
set_option maxRecDepth 20000 in
theorem t4_205 : (.constantLong RX10 184 4 : Cond) ∈ TT := tb4 205 (by decide +kernel) rfl
set_option maxRecDepth 20000 in
theorem t4_206 : (.methodLink RX10 186 yX10_thousandTo : Cond) ∈ TT := tb4 206 (by decide +kernel) rfl
set_option maxRecDepth 20000 in
theorem t4_207 : (.static yX10_thousandTo : Cond) ∈ TT := tb4 207 (by decide +kernel) rfl
set_option maxRecDepth 20000 in
theorem t4_208 : (.code yX10_thousandTo cX10_thousandTo 4 (some .long) : Cond) ∈ TT := tb4 208 rfl rfl
set_option maxRecDepth 20000 in
theorem t4_209 : (.constantLong RX10 182 1000 : Cond) ∈ TT := tb4 209 (by decide +kernel) rfl
set_option maxRecDepth 20000 in
theorem t4_210 : (.methodLink RX10 189 yX10_layTrial : Cond) ∈ TT := tb4 210 (by decide +kernel) rfl
set_option maxRecDepth 20000 in
theorem t4_212 : (.instanceMethod yX10_layTrial : Cond) ∈ TT := tb4 212 (by decide +kernel) rfl
set_option maxRecDepth 20000 in
theorem t4_213 : (.code yX10_layTrial cX10_layTrial 2 none : Cond) ∈ TT := tb4 213 rfl rfl
set_option maxRecDepth 20000 in
theorem t4_214 : (.methodLink RX10 192 yX10_tryThing : Cond) ∈ TT := tb4 214 (by decide +kernel) rfl
set_option maxRecDepth 20000 in
theorem t4_216 : (.instanceMethod yX10_tryThing : Cond) ∈ TT := tb4 216 (by decide +kernel) rfl
set_option maxRecDepth 20000 in
theorem t4_217 : (.code yX10_tryThing cX10_tryThing 6 (some .boolean) : Cond) ∈ TT := tb4 217 rfl rfl
set_option maxRecDepth 20000 in
theorem t4_218 : (.methodLink RX10 179 yX10_wide : Cond) ∈ TT := tb4 218 (by decide +kernel) rfl
set_option maxRecDepth 20000 in
theorem t4_220 : (.instanceMethod yX10_wide : Cond) ∈ TT := tb4 220 (by decide +kernel) rfl
set_option maxRecDepth 20000 in
theorem t4_221 : (.code yX10_wide cX10_wide 4 (some .int) : Cond) ∈ TT := tb4 221 rfl rfl
set_option maxRecDepth 20000 in
theorem t4_222 : (.methodLink RL 87 yX10_spy : Cond) ∈ TT := tb4 222 (by decide +kernel) rfl
set_option maxRecDepth 20000 in
theorem t4_223 : (.instanceMethod yX10_spy : Cond) ∈ TT := tb4 223 (by decide +kernel) rfl
set_option maxRecDepth 20000 in
theorem t4_224 : (.selects RX10 yX10_spy yX10_spy : Cond) ∈ TT := tb4 224 (by decide +kernel) rfl
set_option maxRecDepth 20000 in
theorem t4_225 : (.code yX10_spy cX10_spy 4 (some .int) : Cond) ∈ TT := tb4 225 rfl rfl
set_option maxRecDepth 20000 in
theorem t4_226 : (.methodLink RL 91 yX10_unspy : Cond) ∈ TT := tb4 226 (by decide +kernel) rfl
set_option maxRecDepth 20000 in
theorem t4_227 : (.instanceMethod yX10_unspy : Cond) ∈ TT := tb4 227 (by decide +kernel) rfl
set_option maxRecDepth 20000 in
theorem t4_228 : (.selects RX10 yX10_unspy yX10_unspy : Cond) ∈ TT := tb4 228 (by decide +kernel) rfl
set_option maxRecDepth 20000 in
theorem t4_229 : (.code yX10_unspy cX10_unspy 2 (some .int) : Cond) ∈ TT := tb4 229 rfl rfl
set_option maxRecDepth 20000 in
theorem t4_230 : (.methodLink RL 95 yX10_gaps : Cond) ∈ TT := tb4 230 (by decide +kernel) rfl
set_option maxRecDepth 20000 in
theorem t4_231 : (.instanceMethod yX10_gaps : Cond) ∈ TT := tb4 231 (by decide +kernel) rfl
set_option maxRecDepth 20000 in
theorem t4_232 : (.selects RX10 yX10_gaps yX10_gaps : Cond) ∈ TT := tb4 232 (by decide +kernel) rfl
set_option maxRecDepth 20000 in
theorem t4_233 : (.code yX10_gaps cX10_gaps 5 (some .int) : Cond) ∈ TT := tb4 233 rfl rfl
set_option maxRecDepth 20000 in
theorem t4_234 : (.methodLink RX10 199 yX10_mayBe : Cond) ∈ TT := tb4 234 (by decide +kernel) rfl
set_option maxRecDepth 20000 in
theorem t4_236 : (.instanceMethod yX10_mayBe : Cond) ∈ TT := tb4 236 (by decide +kernel) rfl
set_option maxRecDepth 20000 in
theorem t4_237 : (.code yX10_mayBe cX10_mayBe 3 (some .boolean) : Cond) ∈ TT := tb4 237 rfl rfl
set_option maxRecDepth 20000 in
theorem t4_238 : (.methodLink RL 100 yX10_share : Cond) ∈ TT := tb4 238 (by decide +kernel) rfl
set_option maxRecDepth 20000 in
theorem t4_239 : (.instanceMethod yX10_share : Cond) ∈ TT := tb4 239 (by decide +kernel) rfl
set_option maxRecDepth 20000 in
theorem t5_0 : (.selects RX10 yX10_share yX10_share : Cond) ∈ TT := tb5 0 (by decide +kernel) rfl
set_option maxRecDepth 20000 in
theorem t5_1 : (.code yX10_share cX10_share 6 (some .int) : Cond) ∈ TT := tb5 1 rfl rfl
set_option maxRecDepth 20000 in
theorem t5_2 : (.methodLink RX10 203 yX10_ones : Cond) ∈ TT := tb5 2 (by decide +kernel) rfl
set_option maxRecDepth 20000 in
theorem t5_3 : (.static yX10_ones : Cond) ∈ TT := tb5 3 (by decide +kernel) rfl
set_option maxRecDepth 20000 in
theorem t5_4 : (.code yX10_ones cX10_ones 3 (some .int) : Cond) ∈ TT := tb5 4 rfl rfl
set_option maxRecDepth 20000 in
theorem t5_5 : (.methodLink RX10 206 yX10_factorial : Cond) ∈ TT := tb5 5 (by decide +kernel) rfl
set_option maxRecDepth 20000 in
theorem t5_6 : (.static yX10_factorial : Cond) ∈ TT := tb5 6 (by decide +kernel) rfl
set_option maxRecDepth 20000 in
theorem t5_7 : (.code yX10_factorial cX10_factorial 3 (some .int) : Cond) ∈ TT := tb5 7 rfl rfl
set_option maxRecDepth 20000 in
theorem t5_8 : (.methodLink RX10 209 yX10_placesSeen : Cond) ∈ TT := tb5 8 (by decide +kernel) rfl
set_option maxRecDepth 20000 in
theorem t5_10 : (.instanceMethod yX10_placesSeen : Cond) ∈ TT := tb5 10 (by decide +kernel) rfl
set_option maxRecDepth 20000 in
theorem t5_11 : (.code yX10_placesSeen cX10_placesSeen 5 (some .int) : Cond) ∈ TT := tb5 11 rfl rfl
set_option maxRecDepth 20000 in
theorem t5_12 : (.methodLink RX10 212 yX10_common : Cond) ∈ TT := tb5 12 (by decide +kernel) rfl
set_option maxRecDepth 20000 in
theorem t5_13 : (.static yX10_common : Cond) ∈ TT := tb5 13 (by decide +kernel) rfl
set_option maxRecDepth 20000 in
theorem t5_14 : (.code yX10_common cX10_common 5 (some .int) : Cond) ∈ TT := tb5 14 rfl rfl
set_option maxRecDepth 20000 in
theorem t5_15 : (.methodLink RL 104 yX10_rests : Cond) ∈ TT := tb5 15 (by decide +kernel) rfl
set_option maxRecDepth 20000 in
theorem t5_16 : (.instanceMethod yX10_rests : Cond) ∈ TT := tb5 16 (by decide +kernel) rfl
set_option maxRecDepth 20000 in
theorem t5_17 : (.selects RX10 yX10_rests yX10_rests : Cond) ∈ TT := tb5 17 (by decide +kernel) rfl
set_option maxRecDepth 20000 in
theorem t5_18 : (.code yX10_rests cX10_rests 7 (some .int) : Cond) ∈ TT := tb5 18 rfl rfl
set_option maxRecDepth 20000 in
theorem t5_19 : (.methodLink RX10 218 yX10_isRest : Cond) ∈ TT := tb5 19 (by decide +kernel) rfl
set_option maxRecDepth 20000 in
theorem t5_21 : (.instanceMethod yX10_isRest : Cond) ∈ TT := tb5 21 (by decide +kernel) rfl
set_option maxRecDepth 20000 in
theorem t5_22 : (.code yX10_isRest cX10_isRest 5 (some .boolean) : Cond) ∈ TT := tb5 22 rfl rfl
set_option maxRecDepth 20000 in
theorem t5_23 : (.methodLink RX10 215 yX10_gain : Cond) ∈ TT := tb5 23 (by decide +kernel) rfl
set_option maxRecDepth 20000 in
theorem t5_25 : (.instanceMethod yX10_gain : Cond) ∈ TT := tb5 25 (by decide +kernel) rfl
set_option maxRecDepth 20000 in
theorem t5_26 : (.code yX10_gain cX10_gain 5 (some .int) : Cond) ∈ TT := tb5 26 rfl rfl
set_option maxRecDepth 20000 in
theorem t5_27 : (.methodLink RL 109 yX10_drops : Cond) ∈ TT := tb5 27 (by decide +kernel) rfl
set_option maxRecDepth 20000 in
theorem t5_28 : (.instanceMethod yX10_drops : Cond) ∈ TT := tb5 28 (by decide +kernel) rfl
set_option maxRecDepth 20000 in
theorem t5_29 : (.selects RX10 yX10_drops yX10_drops : Cond) ∈ TT := tb5 29 (by decide +kernel) rfl
set_option maxRecDepth 20000 in
theorem t5_30 : (.code yX10_drops cX10_drops 9 (some .int) : Cond) ∈ TT := tb5 30 rfl rfl
set_option maxRecDepth 20000 in
theorem t5_31 : (.constantLong RX10 221 10 : Cond) ∈ TT := tb5 31 (by decide +kernel) rfl
set_option maxRecDepth 20000 in
theorem t5_32 : (.methodLink RL 114 yX10_seed : Cond) ∈ TT := tb5 32 (by decide +kernel) rfl
set_option maxRecDepth 20000 in
theorem t5_33 : (.instanceMethod yX10_seed : Cond) ∈ TT := tb5 33 (by decide +kernel) rfl
set_option maxRecDepth 20000 in
theorem t5_34 : (.selects RX10 yX10_seed yX10_seed : Cond) ∈ TT := tb5 34 (by decide +kernel) rfl
set_option maxRecDepth 20000 in
theorem t5_35 : (.code yX10_seed cX10_seed 5 (some .long) : Cond) ∈ TT := tb5 35 rfl rfl
set_option maxRecDepth 20000 in
theorem t5_36 : (.methodLink RL 118 yX10_years : Cond) ∈ TT := tb5 36 (by decide +kernel) rfl
set_option maxRecDepth 20000 in
theorem t5_37 : (.instanceMethod yX10_years : Cond) ∈ TT := tb5 37 (by decide +kernel) rfl
set_option maxRecDepth 20000 in
theorem t5_38 : (.selects RX10 yX10_years yX10_years : Cond) ∈ TT := tb5 38 (by decide +kernel) rfl
set_option maxRecDepth 20000 in
theorem t5_39 : (.code yX10_years cX10_years 5 (some .int) : Cond) ∈ TT := tb5 39 rfl rfl
set_option maxRecDepth 20000 in
theorem t5_40 : (.constantLong RX10 227 30 : Cond) ∈ TT := tb5 40 (by decide +kernel) rfl
set_option maxRecDepth 20000 in
theorem t5_41 : (.constantLong RX10 229 6364136223846793005 : Cond) ∈ TT := tb5 41 (by decide +kernel) rfl
set_option maxRecDepth 20000 in
theorem t5_42 : (.constantLong RX10 231 1442695040888963407 : Cond) ∈ TT := tb5 42 (by decide +kernel) rfl
set_option maxRecDepth 20000 in
theorem t5_43 : (.constantLong RX10 233 16 : Cond) ∈ TT := tb5 43 (by decide +kernel) rfl
set_option maxRecDepth 20000 in
theorem t5_44 : (.methodLink RL 122 yX10_keep : Cond) ∈ TT := tb5 44 (by decide +kernel) rfl
set_option maxRecDepth 20000 in
theorem t5_45 : (.instanceMethod yX10_keep : Cond) ∈ TT := tb5 45 (by decide +kernel) rfl
set_option maxRecDepth 20000 in
theorem t5_46 : (.selects RX10 yX10_keep yX10_keep : Cond) ∈ TT := tb5 46 (by decide +kernel) rfl
set_option maxRecDepth 20000 in
theorem t5_47 : (.code yX10_keep cX10_keep 3 (some .int) : Cond) ∈ TT := tb5 47 rfl rfl
set_option maxRecDepth 20000 in
theorem t5_48 : (.methodLink RL 126 yX10_again : Cond) ∈ TT := tb5 48 (by decide +kernel) rfl
set_option maxRecDepth 20000 in
theorem t5_49 : (.instanceMethod yX10_again : Cond) ∈ TT := tb5 49 (by decide +kernel) rfl
set_option maxRecDepth 20000 in
theorem t5_50 : (.selects RX10 yX10_again yX10_again : Cond) ∈ TT := tb5 50 (by decide +kernel) rfl
set_option maxRecDepth 20000 in
theorem t5_51 : (.code yX10_again cX10_again 3 (some .int) : Cond) ∈ TT := tb5 51 rfl rfl
set_option maxRecDepth 20000 in
theorem t5_52 : (.methodLink RL 130 yX10_count : Cond) ∈ TT := tb5 52 (by decide +kernel) rfl
set_option maxRecDepth 20000 in
theorem t5_53 : (.instanceMethod yX10_count : Cond) ∈ TT := tb5 53 (by decide +kernel) rfl
set_option maxRecDepth 20000 in
theorem t5_54 : (.selects RX10 yX10_count yX10_count : Cond) ∈ TT := tb5 54 (by decide +kernel) rfl
set_option maxRecDepth 20000 in
theorem t5_55 : (.code yX10_count cX10_count 2 (some .int) : Cond) ∈ TT := tb5 55 rfl rfl
set_option maxRecDepth 20000 in
theorem t5_56 : (.constantLong RL 31 4294967295 : Cond) ∈ TT := tb5 56 (by decide +kernel) rfl
set_option maxRecDepth 20000 in
theorem t0_0 : (.selects RX6 yX6_lay yX6_lay : Cond) ∈ TT := tb0 0 (by decide +kernel) rfl
set_option maxRecDepth 20000 in
theorem t0_1 : (.selects RX6 yX6_liesUpper yX6_liesUpper : Cond) ∈ TT := tb0 1 (by decide +kernel) rfl
set_option maxRecDepth 20000 in
theorem t0_2 : (.selects RX6 yX6_markAt yX6_markAt : Cond) ∈ TT := tb0 2 (by decide +kernel) rfl
set_option maxRecDepth 20000 in
theorem t0_3 : (.selects RX0 yX0_forgetFirst yX0_forgetFirst : Cond) ∈ TT := tb0 3 (by decide +kernel) rfl
set_option maxRecDepth 20000 in
theorem t0_4 : (.selects RX8 yX8_isReadAt yX8_isReadAt : Cond) ∈ TT := tb0 4 (by decide +kernel) rfl
set_option maxRecDepth 20000 in
theorem t0_5 : (.selects RX9 yX9_comesTrue yX9_comesTrue : Cond) ∈ TT := tb0 5 (by decide +kernel) rfl
set_option maxRecDepth 20000 in
theorem t0_6 : (.selects RX9 yX9_shareOfPlace yX9_shareOfPlace : Cond) ∈ TT := tb0 6 (by decide +kernel) rfl
set_option maxRecDepth 20000 in
theorem t0_7 : (.selects RX9 yX9_weighPair yX9_weighPair : Cond) ∈ TT := tb0 7 (by decide +kernel) rfl
set_option maxRecDepth 20000 in
theorem t0_8 : (.selects RX9 yX9_weightOf yX9_weightOf : Cond) ∈ TT := tb0 8 (by decide +kernel) rfl
set_option maxRecDepth 20000 in
theorem t0_9 : (.selects RX9 yX9_passYear yX9_passYear : Cond) ∈ TT := tb0 9 (by decide +kernel) rfl
set_option maxRecDepth 20000 in
theorem t0_10 : (.selects RX10 yX10_readText yX10_readText : Cond) ∈ TT := tb0 10 (by decide +kernel) rfl
set_option maxRecDepth 20000 in
theorem t0_11 : (.selects RX10 yX10_isBlade yX10_isBlade : Cond) ∈ TT := tb0 11 (by decide +kernel) rfl
set_option maxRecDepth 20000 in
theorem t0_12 : (.selects RX10 yX10_beginOf yX10_beginOf : Cond) ∈ TT := tb0 12 (by decide +kernel) rfl
set_option maxRecDepth 20000 in
theorem t0_13 : (.selects RX10 yX10_wideOf yX10_wideOf : Cond) ∈ TT := tb0 13 (by decide +kernel) rfl
set_option maxRecDepth 20000 in
theorem t0_14 : (.selects RX10 yX10_cellsSeen yX10_cellsSeen : Cond) ∈ TT := tb0 14 (by decide +kernel) rfl
set_option maxRecDepth 20000 in
theorem t0_15 : (.selects RX10 yX10_bladeAt yX10_bladeAt : Cond) ∈ TT := tb0 15 (by decide +kernel) rfl
set_option maxRecDepth 20000 in
theorem t0_16 : (.selects RX10 yX10_cellAt yX10_cellAt : Cond) ∈ TT := tb0 16 (by decide +kernel) rfl
set_option maxRecDepth 20000 in
theorem t0_17 : (.selects RX10 yX10_isGap yX10_isGap : Cond) ∈ TT := tb0 17 (by decide +kernel) rfl
set_option maxRecDepth 20000 in
theorem t0_18 : (.selects RX10 yX10_gapMany yX10_gapMany : Cond) ∈ TT := tb0 18 (by decide +kernel) rfl
set_option maxRecDepth 20000 in
theorem t0_19 : (.selects RX10 yX10_letterAt yX10_letterAt : Cond) ∈ TT := tb0 19 (by decide +kernel) rfl
set_option maxRecDepth 20000 in
theorem t0_20 : (.selects RX10 yX10_canSpread yX10_canSpread : Cond) ∈ TT := tb0 20 (by decide +kernel) rfl
set_option maxRecDepth 20000 in
theorem t0_21 : (.selects RX10 yX10_isFree yX10_isFree : Cond) ∈ TT := tb0 21 (by decide +kernel) rfl
set_option maxRecDepth 20000 in
theorem t0_22 : (.selects RX10 yX10_keepAct yX10_keepAct : Cond) ∈ TT := tb0 22 (by decide +kernel) rfl
set_option maxRecDepth 20000 in
theorem t0_23 : (.selects RX10 yX10_canFold yX10_canFold : Cond) ∈ TT := tb0 23 (by decide +kernel) rfl
set_option maxRecDepth 20000 in
theorem t0_24 : (.selects RX10 yX10_flingOn yX10_flingOn : Cond) ∈ TT := tb0 24 (by decide +kernel) rfl
set_option maxRecDepth 20000 in
theorem t0_25 : (.selects RX10 yX10_gapsOf yX10_gapsOf : Cond) ∈ TT := tb0 25 (by decide +kernel) rfl
set_option maxRecDepth 20000 in
theorem t0_26 : (.selects RX10 yX10_snapOn yX10_snapOn : Cond) ∈ TT := tb0 26 (by decide +kernel) rfl
set_option maxRecDepth 20000 in
theorem t0_27 : (.selects RX10 yX10_readsOn yX10_readsOn : Cond) ∈ TT := tb0 27 (by decide +kernel) rfl
set_option maxRecDepth 20000 in
theorem t0_28 : (.selects RX10 yX10_isReadAt yX10_isReadAt : Cond) ∈ TT := tb0 28 (by decide +kernel) rfl
set_option maxRecDepth 20000 in
theorem t0_29 : (.selects RX10 yX10_waysMany yX10_waysMany : Cond) ∈ TT := tb0 29 (by decide +kernel) rfl
set_option maxRecDepth 20000 in
theorem t0_30 : (.selects RX10 yX10_layWay yX10_layWay : Cond) ∈ TT := tb0 30 (by decide +kernel) rfl
set_option maxRecDepth 20000 in
theorem t0_31 : (.selects RX10 yX10_farOf yX10_farOf : Cond) ∈ TT := tb0 31 (by decide +kernel) rfl
set_option maxRecDepth 20000 in
theorem t0_32 : (.selects RX10 yX10_figuresOf yX10_figuresOf : Cond) ∈ TT := tb0 32 (by decide +kernel) rfl
set_option maxRecDepth 20000 in
theorem t0_33 : (.selects RX10 yX10_timesSeen yX10_timesSeen : Cond) ∈ TT := tb0 33 (by decide +kernel) rfl
set_option maxRecDepth 20000 in
theorem t0_34 : (.selects RX10 yX10_layTrial yX10_layTrial : Cond) ∈ TT := tb0 34 (by decide +kernel) rfl
set_option maxRecDepth 20000 in
theorem t0_35 : (.selects RX10 yX10_tryThing yX10_tryThing : Cond) ∈ TT := tb0 35 (by decide +kernel) rfl
set_option maxRecDepth 20000 in
theorem t0_36 : (.selects RX10 yX10_wide yX10_wide : Cond) ∈ TT := tb0 36 (by decide +kernel) rfl
set_option maxRecDepth 20000 in
theorem t0_37 : (.selects RX10 yX10_mayBe yX10_mayBe : Cond) ∈ TT := tb0 37 (by decide +kernel) rfl
set_option maxRecDepth 20000 in
theorem t0_38 : (.selects RX10 yX10_placesSeen yX10_placesSeen : Cond) ∈ TT := tb0 38 (by decide +kernel) rfl
set_option maxRecDepth 20000 in
theorem t0_39 : (.selects RX10 yX10_isRest yX10_isRest : Cond) ∈ TT := tb0 39 (by decide +kernel) rfl
set_option maxRecDepth 20000 in
theorem t0_40 : (.selects RX10 yX10_gain yX10_gain : Cond) ∈ TT := tb0 40 (by decide +kernel) rfl
set_option maxRecDepth 20000 in
theorem inX0 : ∀ w ∈ u_ws RX0 TX0 2, w ∈ TT := List.forall_mem_cons.mpr ⟨t1_131, List.forall_mem_cons.mpr ⟨t1_133, fun _ h => absurd h List.not_mem_nil⟩⟩
set_option maxRecDepth 20000 in
theorem inX1 : ∀ w ∈ u_ws RX1 TX1 3, w ∈ TT := List.forall_mem_cons.mpr ⟨t1_46, List.forall_mem_cons.mpr ⟨t1_48, List.forall_mem_cons.mpr ⟨t1_50, fun _ h => absurd h List.not_mem_nil⟩⟩⟩
set_option maxRecDepth 20000 in
theorem inX2 : ∀ w ∈ u_ws RX2 TX2 2, w ∈ TT := List.forall_mem_cons.mpr ⟨t1_61, List.forall_mem_cons.mpr ⟨t1_63, fun _ h => absurd h List.not_mem_nil⟩⟩
set_option maxRecDepth 20000 in
theorem inX3 : ∀ w ∈ u_ws RX3 TX3 2, w ∈ TT := List.forall_mem_cons.mpr ⟨t1_31, List.forall_mem_cons.mpr ⟨t1_33, fun _ h => absurd h List.not_mem_nil⟩⟩
set_option maxRecDepth 20000 in
theorem inX4 : ∀ w ∈ u_ws RX4 TX4 2, w ∈ TT := List.forall_mem_cons.mpr ⟨t1_145, List.forall_mem_cons.mpr ⟨t1_147, fun _ h => absurd h List.not_mem_nil⟩⟩
set_option maxRecDepth 20000 in
theorem inX5 : ∀ w ∈ u_ws RX5 TX5 4, w ∈ TT := List.forall_mem_cons.mpr ⟨t1_161, List.forall_mem_cons.mpr ⟨t1_163, List.forall_mem_cons.mpr ⟨t1_165, List.forall_mem_cons.mpr ⟨t1_167, fun _ h => absurd h List.not_mem_nil⟩⟩⟩⟩
set_option maxRecDepth 20000 in
theorem inX6 : ∀ w ∈ u_ws RX6 TX6 5, w ∈ TT := List.forall_mem_cons.mpr ⟨t1_82, List.forall_mem_cons.mpr ⟨t1_84, List.forall_mem_cons.mpr ⟨t1_86, List.forall_mem_cons.mpr ⟨t1_88, List.forall_mem_cons.mpr ⟨t1_90, fun _ h => absurd h List.not_mem_nil⟩⟩⟩⟩⟩
set_option maxRecDepth 20000 in
theorem inX7 : ∀ w ∈ u_ws RX7 TX7 3, w ∈ TT := List.forall_mem_cons.mpr ⟨t1_102, List.forall_mem_cons.mpr ⟨t1_104, List.forall_mem_cons.mpr ⟨t1_106, fun _ h => absurd h List.not_mem_nil⟩⟩⟩
set_option maxRecDepth 20000 in
theorem inX8 : ∀ w ∈ u_ws RX8 TX8 2, w ∈ TT := List.forall_mem_cons.mpr ⟨t1_117, List.forall_mem_cons.mpr ⟨t1_119, fun _ h => absurd h List.not_mem_nil⟩⟩
set_option maxRecDepth 20000 in
theorem inX9 : ∀ w ∈ u_ws RX9 TX9 14, w ∈ TT := List.forall_mem_cons.mpr ⟨t1_184, List.forall_mem_cons.mpr ⟨t1_186, List.forall_mem_cons.mpr ⟨t1_188, List.forall_mem_cons.mpr ⟨t1_190, List.forall_mem_cons.mpr ⟨t1_192, List.forall_mem_cons.mpr ⟨t1_194, List.forall_mem_cons.mpr ⟨t1_196, List.forall_mem_cons.mpr ⟨t1_198, List.forall_mem_cons.mpr ⟨t1_200, List.forall_mem_cons.mpr ⟨t1_202, List.forall_mem_cons.mpr ⟨t1_204, List.forall_mem_cons.mpr ⟨t1_206, List.forall_mem_cons.mpr ⟨t1_208, List.forall_mem_cons.mpr ⟨t1_210, fun _ h => absurd h List.not_mem_nil⟩⟩⟩⟩⟩⟩⟩⟩⟩⟩⟩⟩⟩⟩
set_option maxRecDepth 20000 in
theorem inX10 : ∀ w ∈ u_ws RX10 TX10 21, w ∈ TT := List.forall_mem_cons.mpr ⟨t3_224, List.forall_mem_cons.mpr ⟨t3_226, List.forall_mem_cons.mpr ⟨t3_228, List.forall_mem_cons.mpr ⟨t3_230, List.forall_mem_cons.mpr ⟨t3_232, List.forall_mem_cons.mpr ⟨t3_234, List.forall_mem_cons.mpr ⟨t3_236, List.forall_mem_cons.mpr ⟨t3_238, List.forall_mem_cons.mpr ⟨t4_0, List.forall_mem_cons.mpr ⟨t4_2, List.forall_mem_cons.mpr ⟨t4_4, List.forall_mem_cons.mpr ⟨t4_6, List.forall_mem_cons.mpr ⟨t4_8, List.forall_mem_cons.mpr ⟨t4_10, List.forall_mem_cons.mpr ⟨t4_12, List.forall_mem_cons.mpr ⟨t4_14, List.forall_mem_cons.mpr ⟨t4_16, List.forall_mem_cons.mpr ⟨t4_18, List.forall_mem_cons.mpr ⟨t4_20, List.forall_mem_cons.mpr ⟨t4_22, List.forall_mem_cons.mpr ⟨t4_24, fun _ h => absurd h List.not_mem_nil⟩⟩⟩⟩⟩⟩⟩⟩⟩⟩⟩⟩⟩⟩⟩⟩⟩⟩⟩⟩⟩
end
section
/-! ===== numbers: an int of the machine as the image of an Int ===== -/
def iI (z : Int) : Int32 := Int32.ofInt z
def lI (z : Int) : Int64 := Int64.ofInt z
abbrev rg (z : Int) : Prop := -2147483648 ≤ z ∧ z ≤ 2147483647
abbrev rgL (z : Int) : Prop := -9223372036854775808 ≤ z ∧ z ≤ 9223372036854775807
theorem iI_add (a b : Int) : iI a + iI b = iI (a + b) := (Int32.ofInt_add a b).symm
theorem iI_sub (a b : Int) : iI a - iI b = iI (a - b) := (Int32.ofInt_sub a b).symm
theorem iI_mul (a b : Int) : iI a * iI b = iI (a * b) := (Int32.ofInt_mul a b).symm
theorem iI_neg (a : Int) : - iI a = iI (-a) := (Int32.ofInt_neg a).symm
theorem lI_add (a b : Int) : lI a + lI b = lI (a + b) := (Int64.ofInt_add a b).symm
theorem lI_sub (a b : Int) : lI a - lI b = lI (a - b) := (Int64.ofInt_sub a b).symm
theorem lI_mul (a b : Int) : lI a * lI b = lI (a * b) := (Int64.ofInt_mul a b).symm
theorem iI_toInt {a : Int} (h : rg a) : (iI a).toInt = a := Int32.toInt_ofInt_of_le (by omega) (by omega)
theorem lI_toInt {a : Int} (h : rgL a) : (lI a).toInt = a := Int64.toInt_ofInt_of_le (by omega) (by omega)
theorem iI_of (x : Int32) : iI x.toInt = x := Int32.ofInt_toInt x
theorem lI_of (x : Int64) : lI x.toInt = x := Int64.ofInt_toInt x
theorem rg_toInt (x : Int32) : rg x.toInt := ⟨x.le_toInt, by have := x.toInt_lt; omega⟩
theorem rgL_toInt (x : Int64) : rgL x.toInt := ⟨x.le_toInt, by have := x.toInt_lt; omega⟩
theorem iI_lt {a b : Int} (h : rg a ∧ rg b) : iI a < iI b ↔ a < b := by rw [Int32.lt_iff_toInt_lt, iI_toInt h.1, iI_toInt h.2]
theorem iI_le {a b : Int} (h : rg a ∧ rg b) : iI a ≤ iI b ↔ a ≤ b := by rw [Int32.le_iff_toInt_le, iI_toInt h.1, iI_toInt h.2]
theorem iI_eq {a b : Int} (h : rg a ∧ rg b) : iI a = iI b ↔ a = b := by rw [← Int32.toInt_inj, iI_toInt h.1, iI_toInt h.2]
theorem lI_lt {a b : Int} (h : rgL a ∧ rgL b) : lI a < lI b ↔ a < b := by rw [Int64.lt_iff_toInt_lt, lI_toInt h.1, lI_toInt h.2]
theorem lI_eq {a b : Int} (h : rgL a ∧ rgL b) : lI a = lI b ↔ a = b := by rw [← Int64.toInt_inj, lI_toInt h.1, lI_toInt h.2]
theorem iI_nat (n : Nat) : iI (n : Int) = nI n := Int32.ofInt_eq_ofNat
theorem lI_nat (n : Nat) : lI (n : Int) = lN n := Int64.ofInt_eq_ofNat
theorem iI_0 : (0 : Int32) = iI 0 := rfl
theorem iI_clamp {a : Int} (h0 : 0 ≤ a) (h : a ≤ 2147483647) : (iI a).toNatClampNeg = a.toNat := by
  show (iI a).toInt.toNat = a.toNat
  rw [iI_toInt ⟨by omega, h⟩]
theorem iI_in {a : Int} {n : Nat} (h0 : 0 ≤ a) (h : a < n) (hn : n < 2147483648) : vp_in (iI a) n := by
  rw [vp_in_iff, iI_toInt ⟨by omega, by omega⟩]
  exact ⟨h0, h⟩
theorem iI_div {a b : Int} (h : (0 ≤ a ∧ a ≤ 2147483647) ∧ (0 < b ∧ b ≤ 2147483647)) : iI a / iI b = iI (a / b) := by
  obtain ⟨m, rfl⟩ := Int.eq_ofNat_of_zero_le h.1.1
  obtain ⟨n, rfl⟩ := Int.eq_ofNat_of_zero_le (Int.le_of_lt h.2.1)
  rw [iI_nat, iI_nat, pk_div (by omega) (by omega) (by omega), ← iI_nat, Int.natCast_ediv]
theorem iI_rem {a b : Int} (h : (0 ≤ a ∧ a ≤ 2147483647) ∧ (0 < b ∧ b ≤ 2147483647)) : iI a - iI a / iI b * iI b = iI (a % b) := by
  obtain ⟨m, rfl⟩ := Int.eq_ofNat_of_zero_le h.1.1
  obtain ⟨n, rfl⟩ := Int.eq_ofNat_of_zero_le (Int.le_of_lt h.2.1)
  rw [iI_nat, iI_nat, pk_rem (by omega) (by omega) (by omega), ← iI_nat, Int.natCast_emod]
theorem lI_div {a b : Int} (h : (0 ≤ a ∧ a ≤ 9223372036854775807) ∧ (0 < b ∧ b ≤ 9223372036854775807)) : lI a / lI b = lI (a / b) := by
  obtain ⟨m, rfl⟩ := Int.eq_ofNat_of_zero_le h.1.1
  obtain ⟨n, rfl⟩ := Int.eq_ofNat_of_zero_le (Int.le_of_lt h.2.1)
  rw [lI_nat, lI_nat, pk_lDiv (by omega) (by omega) (by omega), ← lI_nat, Int.natCast_ediv]
theorem lI_rem {a b : Int} (h : (0 ≤ a ∧ a ≤ 9223372036854775807) ∧ (0 < b ∧ b ≤ 9223372036854775807)) : lI a - lI a / lI b * lI b = lI (a % b) := by
  obtain ⟨m, rfl⟩ := Int.eq_ofNat_of_zero_le h.1.1
  obtain ⟨n, rfl⟩ := Int.eq_ofNat_of_zero_le (Int.le_of_lt h.2.1)
  rw [lI_nat, lI_nat, pk_lRem (by omega) (by omega) (by omega), ← lI_nat, Int.natCast_emod]
theorem sh_31 : ∀ n, n < 32 → ((nI n &&& 31).toBitVec.smod 32).toNat = n := by decide +kernel
theorem iI_shr {a b : Int} (h : (0 ≤ a ∧ a ≤ 2147483647) ∧ (0 ≤ b ∧ b < 32)) : iI a >>> (iI b &&& 31) = iI (a / 2 ^ b.toNat) := by
  obtain ⟨m, rfl⟩ := Int.eq_ofNat_of_zero_le h.1.1
  obtain ⟨n, rfl⟩ := Int.eq_ofNat_of_zero_le h.2.1
  rw [iI_nat, iI_nat, pk_shrN (by omega) _ n (sh_31 n (by omega)), ← iI_nat, Int.natCast_ediv]
  simp
theorem iI_shl {a b : Int} (h : (0 ≤ a ∧ a * 2 ^ b.toNat ≤ 2147483647) ∧ (0 ≤ b ∧ b < 32)) : iI a <<< (iI b &&& 31) = iI (a * 2 ^ b.toNat) := by
  obtain ⟨⟨h1, h2⟩, h3, h4⟩ := h
  obtain ⟨m, rfl⟩ := Int.eq_ofNat_of_zero_le h1
  obtain ⟨n, rfl⟩ := Int.eq_ofNat_of_zero_le h3
  have h5 : (m * 2 ^ n : Nat) < 2 ^ 32 := by
    have e : ((m * 2 ^ n : Nat) : Int) = (m : Int) * 2 ^ n := by simp
    simp only [Int.toNat_natCast] at h2
    omega
  rw [iI_nat, iI_nat, pk_shlN _ n (sh_31 n (by omega)) h5, ← iI_nat]
  simp
theorem bv_iI (a : Int) : (iI a).toBitVec.toNat = (a % 4294967296).toNat := by
  show (BitVec.ofInt 32 a).toNat = _
  rw [BitVec.toNat_ofInt]
  rfl
theorem iI_and1 (a : Int) : iI a &&& iI 1 = iI (a % 2) := by
  rw [pk_and (iI a) (m := iI 1) 1 (by decide), bv_iI, ← iI_nat]
  congr 1
  omega
theorem iI_and31 (a : Int) : iI a &&& iI 31 = iI (a % 32) := by
  rw [pk_and (iI a) (m := iI 31) 5 (by decide), bv_iI, ← iI_nat]
  congr 1
  omega
theorem nI_xor (a b : Nat) : nI a ^^^ nI b = nI (a ^^^ b) := by
  apply Int32.toBitVec_inj.1
  show BitVec.ofNat 32 a ^^^ BitVec.ofNat 32 b = BitVec.ofNat 32 (a ^^^ b)
  apply BitVec.eq_of_getLsbD_eq
  intro i hi
  simp [hi]
theorem nI_or (a b : Nat) : nI a ||| nI b = nI (a ||| b) := by
  apply Int32.toBitVec_inj.1
  show BitVec.ofNat 32 a ||| BitVec.ofNat 32 b = BitVec.ofNat 32 (a ||| b)
  apply BitVec.eq_of_getLsbD_eq
  intro i hi
  simp [hi]
def bxor (a b : Int) : Int := ((a.toNat ^^^ b.toNat : Nat) : Int)
def bor (a b : Int) : Int := ((a.toNat ||| b.toNat : Nat) : Int)
theorem iI_xor {a b : Int} (h : 0 ≤ a ∧ 0 ≤ b) : iI a ^^^ iI b = iI (bxor a b) := by
  obtain ⟨m, rfl⟩ := Int.eq_ofNat_of_zero_le h.1
  obtain ⟨n, rfl⟩ := Int.eq_ofNat_of_zero_le h.2
  rw [iI_nat, iI_nat, nI_xor, ← iI_nat]
  rfl
theorem iI_or {a b : Int} (h : 0 ≤ a ∧ 0 ≤ b) : iI a ||| iI b = iI (bor a b) := by
  obtain ⟨m, rfl⟩ := Int.eq_ofNat_of_zero_le h.1
  obtain ⟨n, rfl⟩ := Int.eq_ofNat_of_zero_le h.2
  rw [iI_nat, iI_nat, nI_or, ← iI_nat]
  rfl
theorem iI_l {a : Int} (h : rg a) : (iI a).toInt64 = lI a := by
  apply Int64.toInt_inj.mp
  rw [Int32.toInt_toInt64, iI_toInt h, lI_toInt (by omega)]
theorem lI_i (a : Int) : (lI a).toInt32 = iI a := Int64.toInt32_ofInt
/-- what lcmp puts -/
def lc (a b : Int) : Int := if lI b < lI a then 1 else if lI a = lI b then 0 else -1
theorem lc_cmp (a b : Int) : lg_cmp (lI a) (lI b) = iI (lc a b) := by
  unfold lg_cmp lc
  split
  · rfl
  · split
    · rfl
    · rfl
theorem lc_of {a b : Int} (h : rgL a ∧ rgL b) : lc a b = if b < a then 1 else if a = b then 0 else -1 := by
  unfold lc
  simp only [lI_lt ⟨h.2, h.1⟩, lI_eq h]
theorem lc_self (a : Int) : lc a a = 0 := by
  unfold lc
  rw [if_neg (fun h => by rw [Int64.lt_iff_toInt_lt] at h; omega), if_pos rfl]
theorem lI_ushr33 (a : Int) : ((lI a).toUInt64 >>> ((iI 33).toInt64.toUInt64 &&& Int64.toUInt64 63)).toInt64 = lI (a % 18446744073709551616 / 8589934592) := by
  have h : ((iI 33).toInt64.toUInt64 &&& Int64.toUInt64 63).toNat % 64 = 33 := by decide
  have e : (lI a).toUInt64.toNat = (a % 18446744073709551616).toNat := by
    show (BitVec.ofInt 64 a).toNat = _
    rw [BitVec.toNat_ofInt]
    rfl
  have h0 : 0 ≤ a % 18446744073709551616 := Int.emod_nonneg _ (by decide)
  have h1 : a % 18446744073709551616 < 18446744073709551616 := Int.emod_lt_of_pos _ (by decide)
  have e2 : ((lI a).toUInt64 >>> ((iI 33).toInt64.toUInt64 &&& Int64.toUInt64 63)).toNat = (a % 18446744073709551616 / 8589934592).toNat := by
    rw [UInt64.toNat_shiftRight, Nat.shiftRight_eq_div_pow, h, e]
    omega
  have e3 : (lI (a % 18446744073709551616 / 8589934592)).toUInt64.toNat = (a % 18446744073709551616 / 8589934592).toNat := by
    show (BitVec.ofInt 64 _).toNat = _
    rw [BitVec.toNat_ofInt]
    show ((a % 18446744073709551616 / 8589934592) % 18446744073709551616).toNat = _
    congr 1
    omega
  exact congrArg UInt64.toInt64 (UInt64.toNat_inj.mp (e2.trans e3.symm))
end
section
/-! ===== the world: the 65 cells of the two objects, as a grid of Ints ===== -/
abbrev GS : Type := Nat → Nat → Int
/-- an array of ints (false) or booleans (true) of a length; an array of rows: how many, the first one's cell; an object: its class, its fields (a cell, an int, a long) -/
abbrev ce : Type := (Bool × Nat) ⊕ (Nat × Nat) ⊕ (Nat × List (Option (Option Nat)))
def cA (n : Nat) : ce := .inl (false, n)
def cB (n : Nat) : ce := .inl (true, n)
def cR (n b : Nat) : ce := .inr (.inl (n, b))
def cO (ci : Nat) (fl : List (Option (Option Nat))) : ce := .inr (.inr (ci, fl))
def f_ (c : Nat) : Option (Option Nat) := some (some c)
def fi : Option (Option Nat) := some none
def fl_ : Option (Option Nat) := none
def layL : List ce := [
  cO 9 [f_ 1, f_ 3, f_ 6, f_ 8, f_ 10, f_ 20, f_ 21, f_ 23, f_ 39, f_ 44, f_ 48, f_ 49, f_ 50, fl_],
  cO 3 [f_ 2, fi], cA 64,
  cO 1 [f_ 4, f_ 5, fi], cA 6, cA 48,
  cO 2 [f_ 3, f_ 7], cA 5,
  cO 2 [f_ 3, f_ 9], cA 5,
  cO 6 [f_ 3, f_ 11, f_ 19, fi, fi], cR 7 12, cA 28, cA 28, cA 28, cA 28, cA 28, cA 28, cA 28, cA 6,
  cO 7 [f_ 3, f_ 8, f_ 10],
  cO 8 [f_ 22, fi], cA 5,
  cO 0 [f_ 24, fi], cR 14 25, cA 5, cA 5, cA 5, cA 5, cA 5, cA 5, cA 5, cA 5, cA 5, cA 5, cA 5, cA 5, cA 5, cA 5,
  cO 4 [f_ 40, f_ 43], cR 2 41, cA 5, cA 5, cB 2,
  cO 5 [f_ 45, f_ 46, f_ 47, fi], cA 6, cA 6, cB 6,
  cA 4, cA 4, cA 4,
  cO 10 [fi, f_ 52, f_ 53, f_ 54, f_ 55, f_ 56, fi, f_ 57, fi, fi, f_ 58, fi, fi, f_ 59, fi, f_ 60, f_ 61, f_ 62, fl_, f_ 63, f_ 64],
  cA 6, cA 48, cA 10, cA 6, cA 48, cA 64, cA 5, cA 70, cA 6, cA 6, cA 6, cB 2, cA 10]
def lay (k : Nat) : ce := layL.getD k (cA 0)
def fv (ad : Nat → Nat) (z : Int) (x : Option (Option Nat)) : Value := match x with
  | some (some c) => .ref (ad c)
  | some none => .int (iI z)
  | none => .long (lI z)
def fvs (ad : Nat → Nat) (g : Nat → Int) : Nat → List (Option (Option Nat)) → List Value
  | _, [] => []
  | j, x :: r => fv ad (g j) x :: fvs ad g (j + 1) r
theorem fvs_get (ad : Nat → Nat) (g : Nat → Int) : ∀ (fl : List (Option (Option Nat))) (j i : Nat), (fvs ad g j fl)[i]? = (fl[i]?).map (fun x => fv ad (g (j + i)) x)
  | [], j, i => by simp [fvs]
  | x :: r, j, 0 => by simp [fvs]
  | x :: r, j, i + 1 => by
    simp only [fvs, List.getElem?_cons_succ]
    rw [fvs_get ad g r (j + 1) i, show j + 1 + i = j + (i + 1) by omega]
def up1 (f : Nat → Int) (j : Nat) (v : Int) : Nat → Int := fun b => if b = j then v else f b
def upR (σ : GS) (k : Nat) (f : Nat → Int) : GS := fun a => if a = k then f else σ a
def up2 (σ : GS) (k j : Nat) (v : Int) : GS := upR σ k (up1 (σ k) j v)
/-- n places of f laid over g from its first place on -/
def cp (f g : Nat → Int) (n : Nat) : Nat → Int := fun i => if i < n then f i else g i
theorem fvs_set {ad : Nat → Nat} {g : Nat → Int} {fl : List (Option (Option Nat))} {i : Nat} {x : Option (Option Nat)} (h : fl[i]? = some x) (v : Int) (w : Value) (hw : fv ad v x = w) (hx : ∀ c, x ≠ some (some c)) : (fvs ad g 0 fl).set i w = fvs ad (up1 g i v) 0 fl := by
  apply List.ext_getElem?
  intro j
  rw [List.getElem?_set, fvs_get, fvs_get]
  by_cases e : i = j
  · subst e
    have hl : i < (fvs ad g 0 fl).length := by
      rcases Nat.lt_or_ge i (fvs ad g 0 fl).length with q | q
      · exact q
      · have h9 := fvs_get ad g fl 0 i
        rw [List.getElem?_eq_none q, h] at h9
        simp at h9
    rw [if_pos rfl, if_pos hl, h]
    simp [up1, hw]
  · rw [if_neg e]
    cases hj : fl[j]? with
    | none => rfl
    | some y => simp [up1, show ¬ j = i from fun q => e q.symm]
section WL
variable (ad : Nat → Nat) (cI cZ cG : ClassId)
def xE (σ : GS) (k : Nat) : va_E := match lay k with
  | .inl (b, n) => .inl ((if b = true then cZ else cI), n, .inl (fun i => iI (σ k i)))
  | .inr (.inl (n, base)) => .inl (cG, n, .inr (.inr (.inr (.inr (fun i => if i < n then some (ad (base + i)) else none)))))
  | .inr (.inr (ci, fl)) => .inr (ci, fvs ad (σ k) 0 fl)
def wl (σ : GS) : va_W := (List.range 65).map (fun k => (ad k, xE ad cI cZ cG σ k))
end WL
section WM
variable {ad : Nat → Nat} {cI cZ cG : ClassId}
theorem wl_get {σ : GS} {k : Nat} (hk : k < 65) {E : va_E} (hE : xE ad cI cZ cG σ k = E) : (wl ad cI cZ cG σ)[k]? = some (ad k, E) := by
  simp [wl, hk, hE]
theorem wl_set {σ σ' : GS} {k : Nat} {E : va_E} (hk : k < 65) (hE : xE ad cI cZ cG σ' k = E) (ho : ∀ j, j ≠ k → xE ad cI cZ cG σ' j = xE ad cI cZ cG σ j) : (wl ad cI cZ cG σ).set k (ad k, E) = wl ad cI cZ cG σ' := by
  apply List.ext_getElem?
  intro j
  rw [List.getElem?_set]
  by_cases e : k = j
  · subst e
    rw [if_pos rfl, if_pos (by simp [wl, hk]), wl_get hk hE]
  · rw [if_neg e]
    simp only [wl, List.getElem?_map]
    by_cases hj : j < 65
    · simp [hj, ho j (fun q => e q.symm)]
    · simp [hj]
theorem xE_other {σ : GS} {k : Nat} {f : Nat → Int} (j : Nat) (h : j ≠ k) : xE ad cI cZ cG (upR σ k f) j = xE ad cI cZ cG σ j := by
  unfold xE upR
  rw [if_neg h]
def Aw (ad : Nat → Nat) : Nat → Prop := fun q => ∃ k, k < 65 ∧ q = ad k
def Ij (ad : Nat → Nat) : Prop := ∀ i j, i < 65 → j < 65 → ad i = ad j → i = j
theorem wl_D {A : Nat → Prop} (h : Ij ad) (hA : ∀ k, k < 65 → A (ad k)) (σ : GS) : va_D A (wl ad cI cZ cG σ) := by
  have key : ∀ (i : Nat) (x : Nat × va_E), (wl ad cI cZ cG σ)[i]? = some x → i < 65 ∧ x.1 = ad i := by
    intro i x hx
    have hi : i < 65 := by
      have := (List.getElem?_eq_some_iff.mp hx).1
      simpa [wl] using this
    rw [wl_get hi rfl] at hx
    cases hx
    exact ⟨hi, rfl⟩
  refine ⟨fun i j x y hx hy hxy => ?_, fun k x hx => ?_⟩
  · obtain ⟨h1, h2⟩ := key i x hx
    obtain ⟨h3, h4⟩ := key j y hy
    exact h i j h1 h3 (by rw [← h2, ← h4]; exact hxy)
  · obtain ⟨h1, h2⟩ := key k x hx
    rw [h2]
    exact hA k h1
end WM
def nw1 : Cond := .methodLinkNest RX3 23 yX9_isLetter RX9
def nw2 : Cond := .methodLinkNest RX6 69 yX9_isPlace RX9
abbrev tys3 (cI cZ cG : ClassId) : List (ClassId × FieldType) := [(cI, .int), (cZ, .boolean), (cG, .array .int)]
def Kw (D : va_G) (cI cZ cG : ClassId) (U : State) : Prop := va_K D vwCl (tys3 cI cZ cG) U ∧ va_Nw nw1 U ∧ va_Nw nw2 U
theorem Kw.warm {D : va_G} {cI cZ cG : ClassId} {s U : State} (hW : s.WarmedH U.vm) (h : Kw D cI cZ cG s) : Kw D cI cZ cG U := ⟨va_K.moved hW.alike h.1, va_Nw.warmM hW h.2.1, va_Nw.warmM hW h.2.2⟩
theorem Kw.call {D : va_G} {cI cZ cG : ClassId} {U : State} (g : JFrame) (mk : MethodId) (a : Array Value) (h : Kw D cI cZ cG U) : Kw D cI cZ cG (U.calling g mk a) :=
  ⟨va_K.moved (u := U) (U := U.calling g mk a) (Vm.Alike.refl U.vm) h.1, va_Nw.same rfl (u := U) (U := U.calling g mk a) rfl h.2.1, va_Nw.same rfl (u := U) (U := U.calling g mk a) rfl h.2.2⟩
/-- the world at a method's start -/
def Wd (ad : Nat → Nat) (D : va_G) (cI cZ cG : ClassId) (σ : GS) (U : State) : Prop := va_P D vwCl (wl ad cI cZ cG σ) U.heap ∧ Kw D cI cZ cG U
/-- the heap behind it -/
def Wh (ad : Nat → Nat) (D : va_G) (cI cZ cG : ClassId) (σ : GS) (U : State) : Prop := va_P D vwCl (wl ad cI cZ cG σ) U.heap
def wX (y : MethodName) (cc : ByteArray) (maxL : Nat) (ret : Option FieldType) : List Cond := Cond.code y cc maxL ret :: TT
def QI (ad : Nat → Nat) (D : va_G) (cI cZ cG : ClassId) (P : Int → GS → Prop) := va_Qi (fun (r : Int32) (u : GS) => ∃ z : Int, r = iI z ∧ P z u) (Wh ad D cI cZ cG) (Aw ad)
def QL (ad : Nat → Nat) (D : va_G) (cI cZ cG : ClassId) (P : Int → GS → Prop) := va_Ql (fun (r : Int64) (u : GS) => ∃ z : Int, r = lI z ∧ P z u) (Wh ad D cI cZ cG) (Aw ad)
def QV (ad : Nat → Nat) (D : va_G) (cI cZ cG : ClassId) (P : GS → Prop) := va_Qv P (Wh ad D cI cZ cG) (Aw ad)
/-- what stays through a method's walk -/
def Cx (p : Program) (s : State) (m : MethodId) (args : Array Value) (meth : Method) (c : Code) (ad : Nat → Nat) (D : va_G) (cI cZ cG : ClassId) (A : Nat → Prop) (cc : ByteArray) (nL : Nat) (own : String) (ret : Option FieldType) : Prop :=
  p.tables.exec = Jvm.exec ∧ c.code = cc ∧ c.maxLocals = nL ∧ s.vm.findClass own = some m.cls ∧ (∀ w ∈ TT, w.before args s = true) ∧ Kw D cI cZ cG s ∧ Ij ad ∧ (∀ k, k < 65 → A (ad k)) ∧ meth.sig.returnType = ret ∧ meth.locks = false
def V (p : Program) (l : Launch) (e : Env) (R : Room) (s : State) (m : MethodId) (args : Array Value) (below : List Frame) (meth : Method) (c : Code) (ad : Nat → Nat) (D : va_G) (cI cZ cG : ClassId) (A : Nat → Prop) (nL kc ks : Nat) (Q : State → Prop) (σ : GS) (pc : Nat) (lv : List (Nat × Value)) (st : List Value) : Prop :=
  ∀ (H : Heap) (locs : List Loc) (ls : Array Slot), va_P D vwCl (wl ad cI cZ cG σ) H → va_S A s.heap H locs → lv_has ls nL lv → W p l e R s m args below meth c H locs kc ks Q (F0 m pc ls st)
theorem met_V {l : Launch} {ad : Nat → Nat} {D : va_G} {cI cZ cG : ClassId} {y : MethodName} {cc : ByteArray} {maxL : Nat} {ret : Option FieldType} {rm : Room} {av : List Value} {σ : GS} {Qc : Array Value → State → Outcome → State → Prop} {own : String} (hI : Ij ad) (hy : plainFor y = true) (ho : y.cls = own) (hlen : (lg_sl av).length ≤ maxL)
    (body : ∀ (p : Program) (e : Env) (s : State) (m : MethodId) (args : Array Value) (below : List Frame) (meth : Method) (c : Code), Cx p s m args meth c ad D cI cZ cG (Aw ad) cc maxL own ret → V p l e rm s m args below meth c ad D cI cZ cG (Aw ad) maxL 0 0 (MQ below Qc args s 0 0 (Aw ad)) σ 0 (lv_args 0 av) []) :
    Met l y (wX y cc maxL ret) rm (va_Pc av (Wd ad D cI cZ cG σ)) Qc 0 0 (Aw ad) := by
  refine va_MetF (cc := cc) (maxL := maxL) (ret := ret) hy rfl ?_
  intro p e s m args below meth c s₁ B hml hv
  obtain ⟨rfl, hP, hK⟩ := hv
  have hts := atoms_spec (ws := wX y cc maxL ret) B.pre
  have hown : s.vm.findClass own = some m.cls := by rw [← ho]; exact findClass_of_methodNamed B.named
  have hl := lv_entry av (n := maxL) hlen
  rw [lg_entry_eq]
  exact body p e s m av.toArray below meth c ⟨B.exec, B.bytes, hml, hown, fun w hw => hts w (List.mem_cons_of_mem _ hw), hK, hI, fun k hk => ⟨k, hk, rfl⟩, B.returns, B.notSynchronized⟩ s.heap [] _ hP va_S.rf hl
/-- a call's links -/
def CallOK (own : String) (idx : Nat) (y : MethodName) (bytes : ByteArray) (maxL : Nat) (ret : Option FieldType) (n : Nat) : Prop :=
  Cond.methodLink own idx y ∈ TT ∧ Cond.initialized y.cls ∈ TT ∧ Cond.code y bytes maxL ret ∈ TT ∧ (y.cls ≠ "java/lang/invoke/MethodHandle" ∧ y.cls ≠ "java/lang/invoke/VarHandle" ∧ (parseMethodDescriptor y.desc).map (fun d => d.parameters.length) = some n)
def VirtOK (y : MethodName) : Prop := Cond.instanceMethod y ∈ TT ∧ Cond.selects y.cls y y ∈ TT
/-- a field's links: its class's place, its place in it -/
def FldOK (own : String) (idx ci j : Nat) (C : String) (T : u_T) (N : Nat) : Prop :=
  vwCl[ci]? = some (C, T, N) ∧ j < N ∧ (∀ w ∈ u_ws C T N, w ∈ TT) ∧ Cond.fieldLink own idx (T j).1 (T j).2.1 (T j).2.2.1 ∈ TT
end
section
section XR
variable {p : Program} {l : Launch} {e : Env} {R : Room} {s : State} {m : MethodId} {args : Array Value} {below : List Frame} {meth : Method} {c : Code} {ad : Nat → Nat} {D : va_G} {cI cZ cG : ClassId} {A : Nat → Prop} {cc : ByteArray} {nL kc ks : Nat} {own : String} {ret : Option FieldType} {Q : State → Prop} {σ : GS} {pc q : Nat} {lv lv' : List (Nat × Value)} {st : List Value}
theorem x_iconst {n z : Int} (C : Cx p s m args meth c ad D cI cZ cG A cc nL own ret) (hd : decode cc pc = .ok (.iconst n, 1)) (hz : n = z) (hq : pc + 1 = q)
    (kk : V p l e R s m args below meth c ad D cI cZ cG A nL kc ks Q σ q lv (.int (iI z) :: st)) : V p l e R s m args below meth c ad D cI cZ cG A nL kc ks Q σ pc lv st := by
  subst hq
  intro H locs ls hP hS hl
  refine lv_iconst C.1 C.2.1 hd (congrArg Int32.ofInt hz) ?_
  exact kk H locs ls hP hS hl
theorem x_bipush {n z : Int} (C : Cx p s m args meth c ad D cI cZ cG A cc nL own ret) (hd : decode cc pc = .ok (.bipush n, 2)) (hz : (Int8.ofInt n).toInt32 = iI z) (hq : pc + 2 = q)
    (kk : V p l e R s m args below meth c ad D cI cZ cG A nL kc ks Q σ q lv (.int (iI z) :: st)) : V p l e R s m args below meth c ad D cI cZ cG A nL kc ks Q σ pc lv st := by
  subst hq
  intro H locs ls hP hS hl
  refine lv_bipush C.1 C.2.1 hd hz ?_
  exact kk H locs ls hP hS hl
theorem x_sipush {n z : Int} (C : Cx p s m args meth c ad D cI cZ cG A cc nL own ret) (hd : decode cc pc = .ok (.sipush n, 3)) (hz : (Int16.ofInt n).toInt32 = iI z) (hq : pc + 3 = q)
    (kk : V p l e R s m args below meth c ad D cI cZ cG A nL kc ks Q σ q lv (.int (iI z) :: st)) : V p l e R s m args below meth c ad D cI cZ cG A nL kc ks Q σ pc lv st := by
  subst hq
  intro H locs ls hP hS hl
  refine lv_sipush C.1 C.2.1 hd hz ?_
  exact kk H locs ls hP hS hl
theorem x_lconst {n : Fin 2} {z : Int} (C : Cx p s m args meth c ad D cI cZ cG A cc nL own ret) (hd : decode cc pc = .ok (.lconst n, 1)) (hz : Int64.ofNat n = lI z) (hq : pc + 1 = q)
    (kk : V p l e R s m args below meth c ad D cI cZ cG A nL kc ks Q σ q lv (.long (lI z) :: st)) : V p l e R s m args below meth c ad D cI cZ cG A nL kc ks Q σ pc lv st := by
  subst hq
  intro H locs ls hP hS hl
  refine lv_lconst C.1 C.2.1 hd hz ?_
  exact kk H locs ls hP hS hl
theorem x_ldc2 {idx : Nat} {v : Int64} {z : Int} (C : Cx p s m args meth c ad D cI cZ cG A cc nL own ret) (hd : decode cc pc = .ok (.ldc2_w idx, 3)) (hw : Cond.constantLong own idx v ∈ TT) (hz : v = lI z) (hq : pc + 3 = q)
    (kk : V p l e R s m args below meth c ad D cI cZ cG A nL kc ks Q σ q lv (.long (lI z) :: st)) : V p l e R s m args below meth c ad D cI cZ cG A nL kc ks Q σ pc lv st := by
  subst hq
  intro H locs ls hP hS hl
  refine lv_ldc2 C.1 C.2.1 C.2.2.2.1 (C.2.2.2.2.1 _ hw) hd  ?_
  rw [hz]
  exact kk H locs ls hP hS hl
theorem x_iload_n {k : Fin 4} {i : Nat} {z : Int} (C : Cx p s m args meth c ad D cI cZ cG A cc nL own ret) (hd : decode cc pc = .ok (.iload_n k, 1)) (hi : (k : Nat) = i) (j : Nat) (hj : lv[j]? = some (i, .int (iI z))) (hq : pc + 1 = q)
    (kk : V p l e R s m args below meth c ad D cI cZ cG A nL kc ks Q σ q lv (.int (iI z) :: st)) : V p l e R s m args below meth c ad D cI cZ cG A nL kc ks Q σ pc lv st := by
  subst hq
  intro H locs ls hP hS hl
  refine lv_iload_n C.1 C.2.1 hd hi (lv_at hl j hj) ?_
  exact kk H locs ls hP hS hl
theorem x_iload {i : Nat} {z : Int} (C : Cx p s m args meth c ad D cI cZ cG A cc nL own ret) (hd : decode cc pc = .ok (.iload i, 2)) (j : Nat) (hj : lv[j]? = some (i, .int (iI z))) (hq : pc + 2 = q)
    (kk : V p l e R s m args below meth c ad D cI cZ cG A nL kc ks Q σ q lv (.int (iI z) :: st)) : V p l e R s m args below meth c ad D cI cZ cG A nL kc ks Q σ pc lv st := by
  subst hq
  intro H locs ls hP hS hl
  refine lv_iload C.1 C.2.1 hd (lv_at hl j hj) ?_
  exact kk H locs ls hP hS hl
theorem x_lload_n {k : Fin 4} {i : Nat} {z : Int} (C : Cx p s m args meth c ad D cI cZ cG A cc nL own ret) (hd : decode cc pc = .ok (.lload_n k, 1)) (hi : (k : Nat) = i) (j : Nat) (hj : lv[j]? = some (i, .long (lI z))) (hq : pc + 1 = q)
    (kk : V p l e R s m args below meth c ad D cI cZ cG A nL kc ks Q σ q lv (.long (lI z) :: st)) : V p l e R s m args below meth c ad D cI cZ cG A nL kc ks Q σ pc lv st := by
  subst hq
  intro H locs ls hP hS hl
  refine lv_lload_n C.1 C.2.1 hd hi (lv_at hl j hj) ?_
  exact kk H locs ls hP hS hl
theorem x_lload {i : Nat} {z : Int} (C : Cx p s m args meth c ad D cI cZ cG A cc nL own ret) (hd : decode cc pc = .ok (.lload i, 2)) (j : Nat) (hj : lv[j]? = some (i, .long (lI z))) (hq : pc + 2 = q)
    (kk : V p l e R s m args below meth c ad D cI cZ cG A nL kc ks Q σ q lv (.long (lI z) :: st)) : V p l e R s m args below meth c ad D cI cZ cG A nL kc ks Q σ pc lv st := by
  subst hq
  intro H locs ls hP hS hl
  refine lv_lload C.1 C.2.1 hd (lv_at hl j hj) ?_
  exact kk H locs ls hP hS hl
theorem x_aload_n {k : Fin 4} {i : Nat} {x : Nat} (C : Cx p s m args meth c ad D cI cZ cG A cc nL own ret) (hd : decode cc pc = .ok (.aload_n k, 1)) (hi : (k : Nat) = i) (j : Nat) (hj : lv[j]? = some (i, .ref x)) (hq : pc + 1 = q)
    (kk : V p l e R s m args below meth c ad D cI cZ cG A nL kc ks Q σ q lv (.ref x :: st)) : V p l e R s m args below meth c ad D cI cZ cG A nL kc ks Q σ pc lv st := by
  subst hq
  intro H locs ls hP hS hl
  refine lv_aload_n C.1 C.2.1 hd hi (lv_at hl j hj) ?_
  exact kk H locs ls hP hS hl
theorem x_aload {i : Nat} {x : Nat} (C : Cx p s m args meth c ad D cI cZ cG A cc nL own ret) (hd : decode cc pc = .ok (.aload i, 2)) (j : Nat) (hj : lv[j]? = some (i, .ref x)) (hq : pc + 2 = q)
    (kk : V p l e R s m args below meth c ad D cI cZ cG A nL kc ks Q σ q lv (.ref x :: st)) : V p l e R s m args below meth c ad D cI cZ cG A nL kc ks Q σ pc lv st := by
  subst hq
  intro H locs ls hP hS hl
  refine lv_aload C.1 C.2.1 hd (lv_at hl j hj) ?_
  exact kk H locs ls hP hS hl
theorem x_istore_n {k : Fin 4} {z : Int} {i : Nat} (C : Cx p s m args meth c ad D cI cZ cG A cc nL own ret) (hd : decode cc pc = .ok (.istore_n k, 1)) (hi : (k : Nat) = i) (hn : i < nL) (js : List Nat) (hj : lv_pick ((i, Value.int (iI z)) :: lv.filter (fun q => !(q.1 == i) && !(q.1 + 1 == i && q.2.category == 2))) js = lv') (hq : pc + 1 = q)
    (kk : V p l e R s m args below meth c ad D cI cZ cG A nL kc ks Q σ q lv' st) : V p l e R s m args below meth c ad D cI cZ cG A nL kc ks Q σ pc lv (Value.int (iI z) :: st) := by
  subst hq
  intro H locs ls hP hS hl
  exact lv_istore_n C.1 C.2.1 hd hi hl hn rfl (fun ls' hl' => kk H locs ls' hP hS (lv_sub hl' js hj))
theorem x_istore {z : Int} {i : Nat} (C : Cx p s m args meth c ad D cI cZ cG A cc nL own ret) (hd : decode cc pc = .ok (.istore i, 2))  (hn : i < nL) (js : List Nat) (hj : lv_pick ((i, Value.int (iI z)) :: lv.filter (fun q => !(q.1 == i) && !(q.1 + 1 == i && q.2.category == 2))) js = lv') (hq : pc + 2 = q)
    (kk : V p l e R s m args below meth c ad D cI cZ cG A nL kc ks Q σ q lv' st) : V p l e R s m args below meth c ad D cI cZ cG A nL kc ks Q σ pc lv (Value.int (iI z) :: st) := by
  subst hq
  intro H locs ls hP hS hl
  exact lv_istore C.1 C.2.1 hd hl hn rfl (fun ls' hl' => kk H locs ls' hP hS (lv_sub hl' js hj))
theorem x_lstore_n {k : Fin 4} {z : Int} {i : Nat} (C : Cx p s m args meth c ad D cI cZ cG A cc nL own ret) (hd : decode cc pc = .ok (.lstore_n k, 1)) (hi : (k : Nat) = i) (hn : i + 1 < nL) (js : List Nat) (hj : lv_pick ((i, Value.long (lI z)) :: lv.filter (fun q => !(q.1 == i) && (!(q.1 == i + 1) && !(q.1 + 1 == i && q.2.category == 2)))) js = lv') (hq : pc + 1 = q)
    (kk : V p l e R s m args below meth c ad D cI cZ cG A nL kc ks Q σ q lv' st) : V p l e R s m args below meth c ad D cI cZ cG A nL kc ks Q σ pc lv (Value.long (lI z) :: st) := by
  subst hq
  intro H locs ls hP hS hl
  exact lv_lstore_n C.1 C.2.1 hd hi hl hn rfl (fun ls' hl' => kk H locs ls' hP hS (lv_sub hl' js hj))
theorem x_lstore {z : Int} {i : Nat} (C : Cx p s m args meth c ad D cI cZ cG A cc nL own ret) (hd : decode cc pc = .ok (.lstore i, 2))  (hn : i + 1 < nL) (js : List Nat) (hj : lv_pick ((i, Value.long (lI z)) :: lv.filter (fun q => !(q.1 == i) && (!(q.1 == i + 1) && !(q.1 + 1 == i && q.2.category == 2)))) js = lv') (hq : pc + 2 = q)
    (kk : V p l e R s m args below meth c ad D cI cZ cG A nL kc ks Q σ q lv' st) : V p l e R s m args below meth c ad D cI cZ cG A nL kc ks Q σ pc lv (Value.long (lI z) :: st) := by
  subst hq
  intro H locs ls hP hS hl
  exact lv_lstore C.1 C.2.1 hd hl hn rfl (fun ls' hl' => kk H locs ls' hP hS (lv_sub hl' js hj))
theorem x_astore_n {k : Fin 4} {x : Nat} {i : Nat} (C : Cx p s m args meth c ad D cI cZ cG A cc nL own ret) (hd : decode cc pc = .ok (.astore_n k, 1)) (hi : (k : Nat) = i) (hn : i < nL) (js : List Nat) (hj : lv_pick ((i, Value.ref x) :: lv.filter (fun q => !(q.1 == i) && !(q.1 + 1 == i && q.2.category == 2))) js = lv') (hq : pc + 1 = q)
    (kk : V p l e R s m args below meth c ad D cI cZ cG A nL kc ks Q σ q lv' st) : V p l e R s m args below meth c ad D cI cZ cG A nL kc ks Q σ pc lv (Value.ref x :: st) := by
  subst hq
  intro H locs ls hP hS hl
  exact lv_astore_n C.1 C.2.1 hd hi hl hn rfl (fun ls' hl' => kk H locs ls' hP hS (lv_sub hl' js hj))
theorem x_astore {x : Nat} {i : Nat} (C : Cx p s m args meth c ad D cI cZ cG A cc nL own ret) (hd : decode cc pc = .ok (.astore i, 2))  (hn : i < nL) (js : List Nat) (hj : lv_pick ((i, Value.ref x) :: lv.filter (fun q => !(q.1 == i) && !(q.1 + 1 == i && q.2.category == 2))) js = lv') (hq : pc + 2 = q)
    (kk : V p l e R s m args below meth c ad D cI cZ cG A nL kc ks Q σ q lv' st) : V p l e R s m args below meth c ad D cI cZ cG A nL kc ks Q σ pc lv (Value.ref x :: st) := by
  subst hq
  intro H locs ls hP hS hl
  exact lv_astore C.1 C.2.1 hd hl hn rfl (fun ls' hl' => kk H locs ls' hP hS (lv_sub hl' js hj))
theorem x_iinc {i : Nat} {n z z' : Int} (C : Cx p s m args meth c ad D cI cZ cG A cc nL own ret) (hd : decode cc pc = .ok (.iinc i n, 3)) (j : Nat) (hj0 : lv[j]? = some (i, .int (iI z))) (hz : z + n = z') (hn : i < nL) (js : List Nat) (hj : lv_pick ((i, Value.int (iI z')) :: lv.filter (fun q => !(q.1 == i) && !(q.1 + 1 == i && q.2.category == 2))) js = lv') (hq : pc + 3 = q)
    (kk : V p l e R s m args below meth c ad D cI cZ cG A nL kc ks Q σ q lv' st) : V p l e R s m args below meth c ad D cI cZ cG A nL kc ks Q σ pc lv st := by
  subst hq
  intro H locs ls hP hS hl
  exact lv_iinc (v := iI z') C.1 C.2.1 hd hl hj0 (by rw [← hz]; exact iI_add z n) hn rfl (fun ls' hl' => kk H locs ls' hP hS (lv_sub hl' js hj))
theorem x_iadd {a b : Int} (C : Cx p s m args meth c ad D cI cZ cG A cc nL own ret) (hd : decode cc pc = .ok (.iadd, 1))  (hq : pc + 1 = q)
    (kk : V p l e R s m args below meth c ad D cI cZ cG A nL kc ks Q σ q lv (.int (iI (a + b)) :: st)) : V p l e R s m args below meth c ad D cI cZ cG A nL kc ks Q σ pc lv (.int (iI b) :: .int (iI a) :: st) := by
  subst hq
  intro H locs ls hP hS hl
  refine lv_iadd C.1 C.2.1 hd  ?_
  rw [iI_add]
  exact kk H locs ls hP hS hl
theorem x_isub {a b : Int} (C : Cx p s m args meth c ad D cI cZ cG A cc nL own ret) (hd : decode cc pc = .ok (.isub, 1))  (hq : pc + 1 = q)
    (kk : V p l e R s m args below meth c ad D cI cZ cG A nL kc ks Q σ q lv (.int (iI (a - b)) :: st)) : V p l e R s m args below meth c ad D cI cZ cG A nL kc ks Q σ pc lv (.int (iI b) :: .int (iI a) :: st) := by
  subst hq
  intro H locs ls hP hS hl
  refine lv_isub C.1 C.2.1 hd  ?_
  rw [iI_sub]
  exact kk H locs ls hP hS hl
theorem x_imul {a b : Int} (C : Cx p s m args meth c ad D cI cZ cG A cc nL own ret) (hd : decode cc pc = .ok (.imul, 1))  (hq : pc + 1 = q)
    (kk : V p l e R s m args below meth c ad D cI cZ cG A nL kc ks Q σ q lv (.int (iI (a * b)) :: st)) : V p l e R s m args below meth c ad D cI cZ cG A nL kc ks Q σ pc lv (.int (iI b) :: .int (iI a) :: st) := by
  subst hq
  intro H locs ls hP hS hl
  refine lv_imul C.1 C.2.1 hd  ?_
  rw [iI_mul]
  exact kk H locs ls hP hS hl
theorem x_ladd {a b : Int} (C : Cx p s m args meth c ad D cI cZ cG A cc nL own ret) (hd : decode cc pc = .ok (.ladd, 1))  (hq : pc + 1 = q)
    (kk : V p l e R s m args below meth c ad D cI cZ cG A nL kc ks Q σ q lv (.long (lI (a + b)) :: st)) : V p l e R s m args below meth c ad D cI cZ cG A nL kc ks Q σ pc lv (.long (lI b) :: .long (lI a) :: st) := by
  subst hq
  intro H locs ls hP hS hl
  refine lv_ladd C.1 C.2.1 hd  ?_
  rw [lI_add]
  exact kk H locs ls hP hS hl
theorem x_lsub {a b : Int} (C : Cx p s m args meth c ad D cI cZ cG A cc nL own ret) (hd : decode cc pc = .ok (.lsub, 1))  (hq : pc + 1 = q)
    (kk : V p l e R s m args below meth c ad D cI cZ cG A nL kc ks Q σ q lv (.long (lI (a - b)) :: st)) : V p l e R s m args below meth c ad D cI cZ cG A nL kc ks Q σ pc lv (.long (lI b) :: .long (lI a) :: st) := by
  subst hq
  intro H locs ls hP hS hl
  refine lv_lsub C.1 C.2.1 hd  ?_
  rw [lI_sub]
  exact kk H locs ls hP hS hl
theorem x_lmul {a b : Int} (C : Cx p s m args meth c ad D cI cZ cG A cc nL own ret) (hd : decode cc pc = .ok (.lmul, 1))  (hq : pc + 1 = q)
    (kk : V p l e R s m args below meth c ad D cI cZ cG A nL kc ks Q σ q lv (.long (lI (a * b)) :: st)) : V p l e R s m args below meth c ad D cI cZ cG A nL kc ks Q σ pc lv (.long (lI b) :: .long (lI a) :: st) := by
  subst hq
  intro H locs ls hP hS hl
  refine lv_lmul C.1 C.2.1 hd  ?_
  rw [lI_mul]
  exact kk H locs ls hP hS hl
theorem x_ineg {a : Int} (C : Cx p s m args meth c ad D cI cZ cG A cc nL own ret) (hd : decode cc pc = .ok (.ineg, 1))  (hq : pc + 1 = q)
    (kk : V p l e R s m args below meth c ad D cI cZ cG A nL kc ks Q σ q lv (.int (iI (-a)) :: st)) : V p l e R s m args below meth c ad D cI cZ cG A nL kc ks Q σ pc lv (.int (iI a) :: st) := by
  subst hq
  intro H locs ls hP hS hl
  refine lv_ineg C.1 C.2.1 hd  ?_
  rw [iI_neg]
  exact kk H locs ls hP hS hl
theorem x_idiv {a b : Int} (C : Cx p s m args meth c ad D cI cZ cG A cc nL own ret) (hd : decode cc pc = .ok (.idiv, 1)) (h : (0 ≤ a ∧ a ≤ 2147483647) ∧ (0 < b ∧ b ≤ 2147483647)) (hq : pc + 1 = q)
    (kk : V p l e R s m args below meth c ad D cI cZ cG A nL kc ks Q σ q lv (.int (iI (a / b)) :: st)) : V p l e R s m args below meth c ad D cI cZ cG A nL kc ks Q σ pc lv (.int (iI b) :: .int (iI a) :: st) := by
  subst hq
  intro H locs ls hP hS hl
  refine lv_idiv C.1 C.2.1 hd (fun h0 => by rw [iI_0, iI_eq ⟨by omega, by omega⟩] at h0; omega) ?_
  rw [iI_div h]
  exact kk H locs ls hP hS hl
theorem x_irem {a b : Int} (C : Cx p s m args meth c ad D cI cZ cG A cc nL own ret) (hd : decode cc pc = .ok (.irem, 1)) (h : (0 ≤ a ∧ a ≤ 2147483647) ∧ (0 < b ∧ b ≤ 2147483647)) (hq : pc + 1 = q)
    (kk : V p l e R s m args below meth c ad D cI cZ cG A nL kc ks Q σ q lv (.int (iI (a % b)) :: st)) : V p l e R s m args below meth c ad D cI cZ cG A nL kc ks Q σ pc lv (.int (iI b) :: .int (iI a) :: st) := by
  subst hq
  intro H locs ls hP hS hl
  refine lv_irem C.1 C.2.1 hd (fun h0 => by rw [iI_0, iI_eq ⟨by omega, by omega⟩] at h0; omega) ?_
  rw [iI_rem h]
  exact kk H locs ls hP hS hl
theorem x_ldiv {a b : Int} (C : Cx p s m args meth c ad D cI cZ cG A cc nL own ret) (hd : decode cc pc = .ok (.ldiv, 1)) (h : (0 ≤ a ∧ a ≤ 9223372036854775807) ∧ (0 < b ∧ b ≤ 9223372036854775807)) (hq : pc + 1 = q)
    (kk : V p l e R s m args below meth c ad D cI cZ cG A nL kc ks Q σ q lv (.long (lI (a / b)) :: st)) : V p l e R s m args below meth c ad D cI cZ cG A nL kc ks Q σ pc lv (.long (lI b) :: .long (lI a) :: st) := by
  subst hq
  intro H locs ls hP hS hl
  refine lv_ldiv C.1 C.2.1 hd (fun h0 => by rw [show (0 : Int64) = lI 0 from rfl, lI_eq ⟨by omega, by omega⟩] at h0; omega) ?_
  rw [lI_div h]
  exact kk H locs ls hP hS hl
theorem x_lrem {a b : Int} (C : Cx p s m args meth c ad D cI cZ cG A cc nL own ret) (hd : decode cc pc = .ok (.lrem, 1)) (h : (0 ≤ a ∧ a ≤ 9223372036854775807) ∧ (0 < b ∧ b ≤ 9223372036854775807)) (hq : pc + 1 = q)
    (kk : V p l e R s m args below meth c ad D cI cZ cG A nL kc ks Q σ q lv (.long (lI (a % b)) :: st)) : V p l e R s m args below meth c ad D cI cZ cG A nL kc ks Q σ pc lv (.long (lI b) :: .long (lI a) :: st) := by
  subst hq
  intro H locs ls hP hS hl
  refine lv_lrem C.1 C.2.1 hd (fun h0 => by rw [show (0 : Int64) = lI 0 from rfl, lI_eq ⟨by omega, by omega⟩] at h0; omega) ?_
  rw [lI_rem h]
  exact kk H locs ls hP hS hl
theorem x_ishr {a b : Int} (C : Cx p s m args meth c ad D cI cZ cG A cc nL own ret) (hd : decode cc pc = .ok (.ishr, 1)) (h : (0 ≤ a ∧ a ≤ 2147483647) ∧ (0 ≤ b ∧ b < 32)) (hq : pc + 1 = q)
    (kk : V p l e R s m args below meth c ad D cI cZ cG A nL kc ks Q σ q lv (.int (iI (a / 2 ^ b.toNat)) :: st)) : V p l e R s m args below meth c ad D cI cZ cG A nL kc ks Q σ pc lv (.int (iI b) :: .int (iI a) :: st) := by
  subst hq
  intro H locs ls hP hS hl
  refine lv_ishr C.1 C.2.1 hd  ?_
  rw [iI_shr h]
  exact kk H locs ls hP hS hl
theorem x_ishl {a b : Int} (C : Cx p s m args meth c ad D cI cZ cG A cc nL own ret) (hd : decode cc pc = .ok (.ishl, 1)) (h : (0 ≤ a ∧ a * 2 ^ b.toNat ≤ 2147483647) ∧ (0 ≤ b ∧ b < 32)) (hq : pc + 1 = q)
    (kk : V p l e R s m args below meth c ad D cI cZ cG A nL kc ks Q σ q lv (.int (iI (a * 2 ^ b.toNat)) :: st)) : V p l e R s m args below meth c ad D cI cZ cG A nL kc ks Q σ pc lv (.int (iI b) :: .int (iI a) :: st) := by
  subst hq
  intro H locs ls hP hS hl
  refine lv_ishl C.1 C.2.1 hd  ?_
  rw [iI_shl h]
  exact kk H locs ls hP hS hl
theorem x_ixor {a b : Int} (C : Cx p s m args meth c ad D cI cZ cG A cc nL own ret) (hd : decode cc pc = .ok (.ixor, 1)) (h : 0 ≤ a ∧ 0 ≤ b) (hq : pc + 1 = q)
    (kk : V p l e R s m args below meth c ad D cI cZ cG A nL kc ks Q σ q lv (.int (iI (bxor a b)) :: st)) : V p l e R s m args below meth c ad D cI cZ cG A nL kc ks Q σ pc lv (.int (iI b) :: .int (iI a) :: st) := by
  subst hq
  intro H locs ls hP hS hl
  refine lv_ixor C.1 C.2.1 hd  ?_
  rw [iI_xor h]
  exact kk H locs ls hP hS hl
theorem x_ior {a b : Int} (C : Cx p s m args meth c ad D cI cZ cG A cc nL own ret) (hd : decode cc pc = .ok (.ior, 1)) (h : 0 ≤ a ∧ 0 ≤ b) (hq : pc + 1 = q)
    (kk : V p l e R s m args below meth c ad D cI cZ cG A nL kc ks Q σ q lv (.int (iI (bor a b)) :: st)) : V p l e R s m args below meth c ad D cI cZ cG A nL kc ks Q σ pc lv (.int (iI b) :: .int (iI a) :: st) := by
  subst hq
  intro H locs ls hP hS hl
  refine lv_ior C.1 C.2.1 hd  ?_
  rw [iI_or h]
  exact kk H locs ls hP hS hl
theorem x_iand1 {a : Int} (C : Cx p s m args meth c ad D cI cZ cG A cc nL own ret) (hd : decode cc pc = .ok (.iand, 1))  (hq : pc + 1 = q)
    (kk : V p l e R s m args below meth c ad D cI cZ cG A nL kc ks Q σ q lv (.int (iI (a % 2)) :: st)) : V p l e R s m args below meth c ad D cI cZ cG A nL kc ks Q σ pc lv (.int (iI 1) :: .int (iI a) :: st) := by
  subst hq
  intro H locs ls hP hS hl
  refine lv_iand C.1 C.2.1 hd  ?_
  rw [iI_and1]
  exact kk H locs ls hP hS hl
theorem x_iand31 {a : Int} (C : Cx p s m args meth c ad D cI cZ cG A cc nL own ret) (hd : decode cc pc = .ok (.iand, 1))  (hq : pc + 1 = q)
    (kk : V p l e R s m args below meth c ad D cI cZ cG A nL kc ks Q σ q lv (.int (iI (a % 32)) :: st)) : V p l e R s m args below meth c ad D cI cZ cG A nL kc ks Q σ pc lv (.int (iI 31) :: .int (iI a) :: st) := by
  subst hq
  intro H locs ls hP hS hl
  refine lv_iand C.1 C.2.1 hd  ?_
  rw [iI_and31]
  exact kk H locs ls hP hS hl
theorem x_i2l {a : Int} (C : Cx p s m args meth c ad D cI cZ cG A cc nL own ret) (hd : decode cc pc = .ok (.i2l, 1)) (h : rg a) (hq : pc + 1 = q)
    (kk : V p l e R s m args below meth c ad D cI cZ cG A nL kc ks Q σ q lv (.long (lI a) :: st)) : V p l e R s m args below meth c ad D cI cZ cG A nL kc ks Q σ pc lv (.int (iI a) :: st) := by
  subst hq
  intro H locs ls hP hS hl
  refine lv_i2l C.1 C.2.1 hd (iI_l h) ?_
  exact kk H locs ls hP hS hl
theorem x_l2i {a : Int} (C : Cx p s m args meth c ad D cI cZ cG A cc nL own ret) (hd : decode cc pc = .ok (.l2i, 1))  (hq : pc + 1 = q)
    (kk : V p l e R s m args below meth c ad D cI cZ cG A nL kc ks Q σ q lv (.int (iI a) :: st)) : V p l e R s m args below meth c ad D cI cZ cG A nL kc ks Q σ pc lv (.long (lI a) :: st) := by
  subst hq
  intro H locs ls hP hS hl
  refine lv_l2i C.1 C.2.1 hd (lI_i a) ?_
  exact kk H locs ls hP hS hl
theorem x_lushr33 {a : Int} (C : Cx p s m args meth c ad D cI cZ cG A cc nL own ret) (hd : decode cc pc = .ok (.lushr, 1))  (hq : pc + 1 = q)
    (kk : V p l e R s m args below meth c ad D cI cZ cG A nL kc ks Q σ q lv (.long (lI (a % 18446744073709551616 / 8589934592)) :: st)) : V p l e R s m args below meth c ad D cI cZ cG A nL kc ks Q σ pc lv (.int (iI 33) :: .long (lI a) :: st) := by
  subst hq
  intro H locs ls hP hS hl
  refine lv_lushr C.1 C.2.1 hd (lI_ushr33 a) ?_
  exact kk H locs ls hP hS hl
theorem x_lcmp {a b : Int} (C : Cx p s m args meth c ad D cI cZ cG A cc nL own ret) (hd : decode cc pc = .ok (.lcmp, 1))  (hq : pc + 1 = q)
    (kk : V p l e R s m args below meth c ad D cI cZ cG A nL kc ks Q σ q lv (.int (iI (lc a b)) :: st)) : V p l e R s m args below meth c ad D cI cZ cG A nL kc ks Q σ pc lv (.long (lI b) :: .long (lI a) :: st) := by
  subst hq
  intro H locs ls hP hS hl
  refine W.lcmp C.1 C.2.1 hd  ?_
  rw [lc_cmp]
  exact kk H locs ls hP hS hl
theorem x_lshl {x : Int64} {y : Int32} (C : Cx p s m args meth c ad D cI cZ cG A cc nL own ret) (hd : decode cc pc = .ok (.lshl, 1))  (hq : pc + 1 = q)
    (kk : V p l e R s m args below meth c ad D cI cZ cG A nL kc ks Q σ q lv (.long (x <<< (y.toInt64 &&& 63)) :: st)) : V p l e R s m args below meth c ad D cI cZ cG A nL kc ks Q σ pc lv (.int y :: .long x :: st) := by
  subst hq
  intro H locs ls hP hS hl
  refine lv_lshl C.1 C.2.1 hd rfl ?_
  exact kk H locs ls hP hS hl
theorem x_land {x y : Int64} (C : Cx p s m args meth c ad D cI cZ cG A cc nL own ret) (hd : decode cc pc = .ok (.land, 1))  (hq : pc + 1 = q)
    (kk : V p l e R s m args below meth c ad D cI cZ cG A nL kc ks Q σ q lv (.long (x &&& y) :: st)) : V p l e R s m args below meth c ad D cI cZ cG A nL kc ks Q σ pc lv (.long y :: .long x :: st) := by
  subst hq
  intro H locs ls hP hS hl
  refine lv_land C.1 C.2.1 hd  ?_
  exact kk H locs ls hP hS hl
theorem x_lor {x y : Int64} (C : Cx p s m args meth c ad D cI cZ cG A cc nL own ret) (hd : decode cc pc = .ok (.lor, 1))  (hq : pc + 1 = q)
    (kk : V p l e R s m args below meth c ad D cI cZ cG A nL kc ks Q σ q lv (.long (x ||| y) :: st)) : V p l e R s m args below meth c ad D cI cZ cG A nL kc ks Q σ pc lv (.long y :: .long x :: st) := by
  subst hq
  intro H locs ls hP hS hl
  refine lv_lor C.1 C.2.1 hd  ?_
  exact kk H locs ls hP hS hl
theorem x_i2lr {x : Int32} (C : Cx p s m args meth c ad D cI cZ cG A cc nL own ret) (hd : decode cc pc = .ok (.i2l, 1))  (hq : pc + 1 = q)
    (kk : V p l e R s m args below meth c ad D cI cZ cG A nL kc ks Q σ q lv (.long x.toInt64 :: st)) : V p l e R s m args below meth c ad D cI cZ cG A nL kc ks Q σ pc lv (.int x :: st) := by
  subst hq
  intro H locs ls hP hS hl
  refine lv_i2l C.1 C.2.1 hd rfl ?_
  exact kk H locs ls hP hS hl
theorem x_ldc2r {idx : Nat} {v : Int64} (C : Cx p s m args meth c ad D cI cZ cG A cc nL own ret) (hd : decode cc pc = .ok (.ldc2_w idx, 3)) (hw : Cond.constantLong own idx v ∈ TT) (hq : pc + 3 = q)
    (kk : V p l e R s m args below meth c ad D cI cZ cG A nL kc ks Q σ q lv (.long v :: st)) : V p l e R s m args below meth c ad D cI cZ cG A nL kc ks Q σ pc lv st := by
  subst hq
  intro H locs ls hP hS hl
  refine lv_ldc2 C.1 C.2.1 C.2.2.2.1 (C.2.2.2.2.1 _ hw) hd  ?_
  exact kk H locs ls hP hS hl
theorem x_dup {va : Value} (C : Cx p s m args meth c ad D cI cZ cG A cc nL own ret) (hd : decode cc pc = .ok (.dup, 1)) (hv : va.category = 1) (hq : pc + 1 = q)
    (kk : V p l e R s m args below meth c ad D cI cZ cG A nL kc ks Q σ q lv (va :: va :: st)) : V p l e R s m args below meth c ad D cI cZ cG A nL kc ks Q σ pc lv (va :: st) := by
  subst hq
  intro H locs ls hP hS hl
  refine lv_dup C.1 C.2.1 hd hv ?_
  exact kk H locs ls hP hS hl
theorem x_dup2 {va vb : Value} (C : Cx p s m args meth c ad D cI cZ cG A cc nL own ret) (hd : decode cc pc = .ok (.dup2, 1)) (hv : va.category = 1) (hb : vb.category = 1) (hq : pc + 1 = q)
    (kk : V p l e R s m args below meth c ad D cI cZ cG A nL kc ks Q σ q lv (va :: vb :: va :: vb :: st)) : V p l e R s m args below meth c ad D cI cZ cG A nL kc ks Q σ pc lv (va :: vb :: st) := by
  subst hq
  intro H locs ls hP hS hl
  refine lv_dup2_11 C.1 C.2.1 hd hv hb ?_
  exact kk H locs ls hP hS hl
theorem x_pop {va : Value} (C : Cx p s m args meth c ad D cI cZ cG A cc nL own ret) (hd : decode cc pc = .ok (.pop, 1)) (hv : va.category = 1) (hq : pc + 1 = q)
    (kk : V p l e R s m args below meth c ad D cI cZ cG A nL kc ks Q σ q lv st) : V p l e R s m args below meth c ad D cI cZ cG A nL kc ks Q σ pc lv (va :: st) := by
  subst hq
  intro H locs ls hP hS hl
  refine lv_pop C.1 C.2.1 hd hv ?_
  exact kk H locs ls hP hS hl
theorem x_icmp_eq {a b off : Int} {tgt : Nat} (C : Cx p s m args meth c ad D cI cZ cG A cc nL own ret) (hd : decode cc pc = .ok (.if_icmp .eq off, 3)) (ht : (pc : Int) + off = (tgt : Int)) (h : rg a ∧ rg b) (hq : pc + 3 = q)
    (kt : a = b → V p l e R s m args below meth c ad D cI cZ cG A nL kc ks Q σ tgt lv st) (kf : ¬ a = b → V p l e R s m args below meth c ad D cI cZ cG A nL kc ks Q σ q lv st) : V p l e R s m args below meth c ad D cI cZ cG A nL kc ks Q σ pc lv (.int (iI b) :: .int (iI a) :: st) := by
  subst hq
  intro H locs ls hP hS hl
  exact lv_icmp_eq C.1 C.2.1 hd ht (fun h1 => (fun h1 => kt ((iI_eq h).mp h1)) h1 H locs ls hP hS hl) (fun h1 => (fun h1 => kf (fun h2 => h1 ((iI_eq h).mpr h2))) h1 H locs ls hP hS hl)
theorem x_icmp_ne {a b off : Int} {tgt : Nat} (C : Cx p s m args meth c ad D cI cZ cG A cc nL own ret) (hd : decode cc pc = .ok (.if_icmp .ne off, 3)) (ht : (pc : Int) + off = (tgt : Int)) (h : rg a ∧ rg b) (hq : pc + 3 = q)
    (kt : ¬ a = b → V p l e R s m args below meth c ad D cI cZ cG A nL kc ks Q σ tgt lv st) (kf : a = b → V p l e R s m args below meth c ad D cI cZ cG A nL kc ks Q σ q lv st) : V p l e R s m args below meth c ad D cI cZ cG A nL kc ks Q σ pc lv (.int (iI b) :: .int (iI a) :: st) := by
  subst hq
  intro H locs ls hP hS hl
  exact lv_icmp_ne C.1 C.2.1 hd ht (fun h1 => (fun h1 => kt (fun h2 => h1 ((iI_eq h).mpr h2))) h1 H locs ls hP hS hl) (fun h1 => (fun h1 => kf ((iI_eq h).mp h1)) h1 H locs ls hP hS hl)
theorem x_icmp_lt {a b off : Int} {tgt : Nat} (C : Cx p s m args meth c ad D cI cZ cG A cc nL own ret) (hd : decode cc pc = .ok (.if_icmp .lt off, 3)) (ht : (pc : Int) + off = (tgt : Int)) (h : rg a ∧ rg b) (hq : pc + 3 = q)
    (kt : a < b → V p l e R s m args below meth c ad D cI cZ cG A nL kc ks Q σ tgt lv st) (kf : ¬ a < b → V p l e R s m args below meth c ad D cI cZ cG A nL kc ks Q σ q lv st) : V p l e R s m args below meth c ad D cI cZ cG A nL kc ks Q σ pc lv (.int (iI b) :: .int (iI a) :: st) := by
  subst hq
  intro H locs ls hP hS hl
  exact lv_icmp_lt C.1 C.2.1 hd ht (fun h1 => (fun h1 => kt ((iI_lt h).mp h1)) h1 H locs ls hP hS hl) (fun h1 => (fun h1 => kf (fun h2 => h1 ((iI_lt h).mpr h2))) h1 H locs ls hP hS hl)
theorem x_icmp_ge {a b off : Int} {tgt : Nat} (C : Cx p s m args meth c ad D cI cZ cG A cc nL own ret) (hd : decode cc pc = .ok (.if_icmp .ge off, 3)) (ht : (pc : Int) + off = (tgt : Int)) (h : rg a ∧ rg b) (hq : pc + 3 = q)
    (kt : b ≤ a → V p l e R s m args below meth c ad D cI cZ cG A nL kc ks Q σ tgt lv st) (kf : ¬ b ≤ a → V p l e R s m args below meth c ad D cI cZ cG A nL kc ks Q σ q lv st) : V p l e R s m args below meth c ad D cI cZ cG A nL kc ks Q σ pc lv (.int (iI b) :: .int (iI a) :: st) := by
  subst hq
  intro H locs ls hP hS hl
  exact lv_icmp_ge C.1 C.2.1 hd ht (fun h1 => (fun h1 => kt ((iI_le ⟨h.2, h.1⟩).mp h1)) h1 H locs ls hP hS hl) (fun h1 => (fun h1 => kf (fun h2 => h1 ((iI_le ⟨h.2, h.1⟩).mpr h2))) h1 H locs ls hP hS hl)
theorem x_icmp_gt {a b off : Int} {tgt : Nat} (C : Cx p s m args meth c ad D cI cZ cG A cc nL own ret) (hd : decode cc pc = .ok (.if_icmp .gt off, 3)) (ht : (pc : Int) + off = (tgt : Int)) (h : rg a ∧ rg b) (hq : pc + 3 = q)
    (kt : b < a → V p l e R s m args below meth c ad D cI cZ cG A nL kc ks Q σ tgt lv st) (kf : ¬ b < a → V p l e R s m args below meth c ad D cI cZ cG A nL kc ks Q σ q lv st) : V p l e R s m args below meth c ad D cI cZ cG A nL kc ks Q σ pc lv (.int (iI b) :: .int (iI a) :: st) := by
  subst hq
  intro H locs ls hP hS hl
  exact lv_icmp_gt C.1 C.2.1 hd ht (fun h1 => (fun h1 => kt ((iI_lt ⟨h.2, h.1⟩).mp h1)) h1 H locs ls hP hS hl) (fun h1 => (fun h1 => kf (fun h2 => h1 ((iI_lt ⟨h.2, h.1⟩).mpr h2))) h1 H locs ls hP hS hl)
theorem x_icmp_le {a b off : Int} {tgt : Nat} (C : Cx p s m args meth c ad D cI cZ cG A cc nL own ret) (hd : decode cc pc = .ok (.if_icmp .le off, 3)) (ht : (pc : Int) + off = (tgt : Int)) (h : rg a ∧ rg b) (hq : pc + 3 = q)
    (kt : a ≤ b → V p l e R s m args below meth c ad D cI cZ cG A nL kc ks Q σ tgt lv st) (kf : ¬ a ≤ b → V p l e R s m args below meth c ad D cI cZ cG A nL kc ks Q σ q lv st) : V p l e R s m args below meth c ad D cI cZ cG A nL kc ks Q σ pc lv (.int (iI b) :: .int (iI a) :: st) := by
  subst hq
  intro H locs ls hP hS hl
  exact lv_icmp_le C.1 C.2.1 hd ht (fun h1 => (fun h1 => kt ((iI_le h).mp h1)) h1 H locs ls hP hS hl) (fun h1 => (fun h1 => kf (fun h2 => h1 ((iI_le h).mpr h2))) h1 H locs ls hP hS hl)
theorem x_if_eq {a off : Int} {tgt : Nat} (C : Cx p s m args meth c ad D cI cZ cG A cc nL own ret) (hd : decode cc pc = .ok (.ifCond .eq off, 3)) (ht : (pc : Int) + off = (tgt : Int)) (h : rg a) (hq : pc + 3 = q)
    (kt : a = 0 → V p l e R s m args below meth c ad D cI cZ cG A nL kc ks Q σ tgt lv st) (kf : ¬ a = 0 → V p l e R s m args below meth c ad D cI cZ cG A nL kc ks Q σ q lv st) : V p l e R s m args below meth c ad D cI cZ cG A nL kc ks Q σ pc lv (.int (iI a) :: st) := by
  subst hq
  intro H locs ls hP hS hl
  exact lv_if_eq C.1 C.2.1 hd ht (fun h1 => (fun h1 => kt ((iI_eq (b := 0) ⟨h, by decide⟩).mp h1)) h1 H locs ls hP hS hl) (fun h1 => (fun h1 => kf (fun h2 => h1 ((iI_eq (b := 0) ⟨h, by decide⟩).mpr h2))) h1 H locs ls hP hS hl)
theorem x_if_ne {a off : Int} {tgt : Nat} (C : Cx p s m args meth c ad D cI cZ cG A cc nL own ret) (hd : decode cc pc = .ok (.ifCond .ne off, 3)) (ht : (pc : Int) + off = (tgt : Int)) (h : rg a) (hq : pc + 3 = q)
    (kt : ¬ a = 0 → V p l e R s m args below meth c ad D cI cZ cG A nL kc ks Q σ tgt lv st) (kf : a = 0 → V p l e R s m args below meth c ad D cI cZ cG A nL kc ks Q σ q lv st) : V p l e R s m args below meth c ad D cI cZ cG A nL kc ks Q σ pc lv (.int (iI a) :: st) := by
  subst hq
  intro H locs ls hP hS hl
  exact lv_if_ne C.1 C.2.1 hd ht (fun h1 => (fun h1 => kt (fun h2 => h1 ((iI_eq (b := 0) ⟨h, by decide⟩).mpr h2))) h1 H locs ls hP hS hl) (fun h1 => (fun h1 => kf ((iI_eq (b := 0) ⟨h, by decide⟩).mp h1)) h1 H locs ls hP hS hl)
theorem x_if_lt {a off : Int} {tgt : Nat} (C : Cx p s m args meth c ad D cI cZ cG A cc nL own ret) (hd : decode cc pc = .ok (.ifCond .lt off, 3)) (ht : (pc : Int) + off = (tgt : Int)) (h : rg a) (hq : pc + 3 = q)
    (kt : a < 0 → V p l e R s m args below meth c ad D cI cZ cG A nL kc ks Q σ tgt lv st) (kf : ¬ a < 0 → V p l e R s m args below meth c ad D cI cZ cG A nL kc ks Q σ q lv st) : V p l e R s m args below meth c ad D cI cZ cG A nL kc ks Q σ pc lv (.int (iI a) :: st) := by
  subst hq
  intro H locs ls hP hS hl
  exact lv_if_lt C.1 C.2.1 hd ht (fun h1 => (fun h1 => kt ((iI_lt (b := 0) ⟨h, by decide⟩).mp h1)) h1 H locs ls hP hS hl) (fun h1 => (fun h1 => kf (fun h2 => h1 ((iI_lt (b := 0) ⟨h, by decide⟩).mpr h2))) h1 H locs ls hP hS hl)
theorem x_if_ge {a off : Int} {tgt : Nat} (C : Cx p s m args meth c ad D cI cZ cG A cc nL own ret) (hd : decode cc pc = .ok (.ifCond .ge off, 3)) (ht : (pc : Int) + off = (tgt : Int)) (h : rg a) (hq : pc + 3 = q)
    (kt : 0 ≤ a → V p l e R s m args below meth c ad D cI cZ cG A nL kc ks Q σ tgt lv st) (kf : ¬ 0 ≤ a → V p l e R s m args below meth c ad D cI cZ cG A nL kc ks Q σ q lv st) : V p l e R s m args below meth c ad D cI cZ cG A nL kc ks Q σ pc lv (.int (iI a) :: st) := by
  subst hq
  intro H locs ls hP hS hl
  exact lv_if_ge C.1 C.2.1 hd ht (fun h1 => (fun h1 => kt ((iI_le (a := 0) (b := a) ⟨by decide, h⟩).mp h1)) h1 H locs ls hP hS hl) (fun h1 => (fun h1 => kf (fun h2 => h1 ((iI_le (a := 0) (b := a) ⟨by decide, h⟩).mpr h2))) h1 H locs ls hP hS hl)
theorem x_if_gt {a off : Int} {tgt : Nat} (C : Cx p s m args meth c ad D cI cZ cG A cc nL own ret) (hd : decode cc pc = .ok (.ifCond .gt off, 3)) (ht : (pc : Int) + off = (tgt : Int)) (h : rg a) (hq : pc + 3 = q)
    (kt : 0 < a → V p l e R s m args below meth c ad D cI cZ cG A nL kc ks Q σ tgt lv st) (kf : ¬ 0 < a → V p l e R s m args below meth c ad D cI cZ cG A nL kc ks Q σ q lv st) : V p l e R s m args below meth c ad D cI cZ cG A nL kc ks Q σ pc lv (.int (iI a) :: st) := by
  subst hq
  intro H locs ls hP hS hl
  exact lv_if_gt C.1 C.2.1 hd ht (fun h1 => (fun h1 => kt ((iI_lt (a := 0) (b := a) ⟨by decide, h⟩).mp h1)) h1 H locs ls hP hS hl) (fun h1 => (fun h1 => kf (fun h2 => h1 ((iI_lt (a := 0) (b := a) ⟨by decide, h⟩).mpr h2))) h1 H locs ls hP hS hl)
theorem x_if_le {a off : Int} {tgt : Nat} (C : Cx p s m args meth c ad D cI cZ cG A cc nL own ret) (hd : decode cc pc = .ok (.ifCond .le off, 3)) (ht : (pc : Int) + off = (tgt : Int)) (h : rg a) (hq : pc + 3 = q)
    (kt : a ≤ 0 → V p l e R s m args below meth c ad D cI cZ cG A nL kc ks Q σ tgt lv st) (kf : ¬ a ≤ 0 → V p l e R s m args below meth c ad D cI cZ cG A nL kc ks Q σ q lv st) : V p l e R s m args below meth c ad D cI cZ cG A nL kc ks Q σ pc lv (.int (iI a) :: st) := by
  subst hq
  intro H locs ls hP hS hl
  exact lv_if_le C.1 C.2.1 hd ht (fun h1 => (fun h1 => kt ((iI_le (b := 0) ⟨h, by decide⟩).mp h1)) h1 H locs ls hP hS hl) (fun h1 => (fun h1 => kf (fun h2 => h1 ((iI_le (b := 0) ⟨h, by decide⟩).mpr h2))) h1 H locs ls hP hS hl)
theorem x_goto {off : Int} {tgt : Nat} (C : Cx p s m args meth c ad D cI cZ cG A cc nL own ret) (hd : decode cc pc = .ok (.goto off, 3)) (ht : (pc : Int) + off = (tgt : Int)) (kk : V p l e R s m args below meth c ad D cI cZ cG A nL kc ks Q σ tgt lv st) : V p l e R s m args below meth c ad D cI cZ cG A nL kc ks Q σ pc lv st := by
  intro H locs ls hP hS hl
  exact lv_goto C.1 C.2.1 hd ht (kk H locs ls hP hS hl)
theorem x_table {dflt lo hi a : Int} {offs : Array Int} {len : Nat} (C : Cx p s m args meth c ad D cI cZ cG A cc nL own ret) (hd : decode cc pc = .ok (.tableswitch dflt lo hi offs, len)) (h : rg a) (td : Nat) (htd : (pc : Int) + dflt = (td : Int)) (tg : List Nat) (hn : offs.toList.map (fun o => (pc : Int) + o) = tg.map (fun (t : Nat) => (t : Int))) (hh : hi - lo + 1 = (tg.length : Int))
    (kd : a < lo ∨ hi < a → V p l e R s m args below meth c ad D cI cZ cG A nL kc ks Q σ td lv st) (kk : ∀ (i t : Nat), tg[i]? = some t → a = lo + i → V p l e R s m args below meth c ad D cI cZ cG A nL kc ks Q σ t lv st) : V p l e R s m args below meth c ad D cI cZ cG A nL kc ks Q σ pc lv (.int (iI a) :: st) := by
  intro H locs ls hP hS hl
  have ea : (iI a).toInt = a := iI_toInt h
  by_cases h1 : a < lo
  · exact lv_tableOut C.1 C.2.1 hd (Or.inl (by rw [ea]; exact h1)) htd (kd (Or.inl h1) H locs ls hP hS hl)
  · by_cases h2 : hi < a
    · exact lv_tableOut C.1 C.2.1 hd (Or.inr (by rw [ea]; exact h2)) htd (kd (Or.inr h2) H locs ls hP hS hl)
    · have hlt : (a - lo).toNat < tg.length := by omega
      obtain ⟨t, et⟩ : ∃ t, tg[(a - lo).toNat]? = some t := ⟨_, List.getElem?_eq_getElem hlt⟩
      have e2 : (offs.toList.map (fun o => (pc : Int) + o))[(a - lo).toNat]? = some (t : Int) := by rw [hn, List.getElem?_map, et]; rfl
      rw [List.getElem?_map, Option.map_eq_some_iff] at e2
      obtain ⟨off, e3, e4⟩ := e2
      exact lv_tableIn C.1 C.2.1 hd (by rw [ea]; exact h1) (by rw [ea]; exact h2) (by rw [ea, ← Array.getElem?_toList]; exact e3) e4 (kk (a - lo).toNat t et (by omega) H locs ls hP hS hl)
theorem x_lookup2 {dflt a v1 o1 v2 o2 : Int} {len : Nat} (C : Cx p s m args meth c ad D cI cZ cG A cc nL own ret) (hd : decode cc pc = .ok (.lookupswitch dflt #[(v1, o1), (v2, o2)], len)) (h : rg a) (h12 : v1 < v2) (td t1 t2 : Nat) (htd : (pc : Int) + dflt = (td : Int)) (ht1 : (pc : Int) + o1 = (t1 : Int)) (ht2 : (pc : Int) + o2 = (t2 : Int))
    (k1 : a = v1 → V p l e R s m args below meth c ad D cI cZ cG A nL kc ks Q σ t1 lv st) (k2 : a = v2 → V p l e R s m args below meth c ad D cI cZ cG A nL kc ks Q σ t2 lv st) (kd : a ≠ v1 → a ≠ v2 → V p l e R s m args below meth c ad D cI cZ cG A nL kc ks Q σ td lv st) : V p l e R s m args below meth c ad D cI cZ cG A nL kc ks Q σ pc lv (.int (iI a) :: st) := by
  intro H locs ls hP hS hl
  have ea : (iI a).toInt = a := iI_toInt h
  have hp : ((#[(v1, o1), (v2, o2)] : Array (Int × Int)).toList.zip ((#[(v1, o1), (v2, o2)] : Array (Int × Int)).toList.drop 1)).all (fun (a, next) => a.1 < next.1) = true := by simp [h12]
  by_cases e1 : a = v1
  · exact lv_lookup C.1 C.2.1 hd hp (off := o1) (by rw [ea, e1]; simp [Op.lookupswitch.offset]) ht1 (k1 e1 H locs ls hP hS hl)
  · by_cases e2 : a = v2
    · exact lv_lookup C.1 C.2.1 hd hp (off := o2) (by rw [ea, e2]; simp [Op.lookupswitch.offset, show ¬ v1 = v2 by omega, show ¬ v2 = v1 by omega]) ht2 (k2 e2 H locs ls hP hS hl)
    · exact lv_lookup C.1 C.2.1 hd hp (off := dflt) (by rw [ea]; simp [Op.lookupswitch.offset, e1, e2, show ¬ v1 = a from fun z => e1 z.symm, show ¬ v2 = a from fun z => e2 z.symm]) htd (kd e1 e2 H locs ls hP hS hl)
theorem x_getI {k : Nat} (C : Cx p s m args meth c ad D cI cZ cG A cc nL own ret) (hk : k < 65) {ci : Nat} {fl : List (Option (Option Nat))} (hl0 : lay k = cO ci fl) {Cn : String} {T : u_T} {N j idx : Nat} (F : FldOK own idx ci j Cn T N) (hf : fl[j]? = some (fi)) (hd : decode cc pc = .ok (.getfield idx, 3)) (hq : pc + 3 = q)
    (kk : V p l e R s m args below meth c ad D cI cZ cG A nL kc ks Q σ q lv (.int (iI (σ k j)) :: st)) : V p l e R s m args below meth c ad D cI cZ cG A nL kc ks Q σ pc lv (.ref (ad k) :: st) := by
  subst hq
  intro H locs ls hP hS hl
  have hE : xE ad cI cZ cG σ k = .inr (ci, fvs ad (σ k) 0 fl) := by unfold xE; rw [hl0]; rfl
  exact va_get C.1 C.2.1 C.2.2.2.2.1 F.2.2.1 C.2.2.2.1 C.2.2.2.2.2.1.1 hP k (wl_get hk hE) F.1 j F.2.1 (C.2.2.2.2.1 _ F.2.2.2) (fun _ h9 => h9) (by rw [fvs_get, hf]; simp [fv, fi, f_, fl_]) hd (kk H locs ls hP hS hl)
theorem x_getR {k c0 : Nat} (C : Cx p s m args meth c ad D cI cZ cG A cc nL own ret) (hk : k < 65) {ci : Nat} {fl : List (Option (Option Nat))} (hl0 : lay k = cO ci fl) {Cn : String} {T : u_T} {N j idx : Nat} (F : FldOK own idx ci j Cn T N) (hf : fl[j]? = some (f_ c0)) (hd : decode cc pc = .ok (.getfield idx, 3)) (hq : pc + 3 = q)
    (kk : V p l e R s m args below meth c ad D cI cZ cG A nL kc ks Q σ q lv (.ref (ad c0) :: st)) : V p l e R s m args below meth c ad D cI cZ cG A nL kc ks Q σ pc lv (.ref (ad k) :: st) := by
  subst hq
  intro H locs ls hP hS hl
  have hE : xE ad cI cZ cG σ k = .inr (ci, fvs ad (σ k) 0 fl) := by unfold xE; rw [hl0]; rfl
  exact va_get C.1 C.2.1 C.2.2.2.2.1 F.2.2.1 C.2.2.2.1 C.2.2.2.2.2.1.1 hP k (wl_get hk hE) F.1 j F.2.1 (C.2.2.2.2.1 _ F.2.2.2) (fun _ h9 => h9) (by rw [fvs_get, hf]; simp [fv, fi, f_, fl_]) hd (kk H locs ls hP hS hl)
theorem x_getL {k : Nat} (C : Cx p s m args meth c ad D cI cZ cG A cc nL own ret) (hk : k < 65) {ci : Nat} {fl : List (Option (Option Nat))} (hl0 : lay k = cO ci fl) {Cn : String} {T : u_T} {N j idx : Nat} (F : FldOK own idx ci j Cn T N) (hf : fl[j]? = some (fl_)) (hd : decode cc pc = .ok (.getfield idx, 3)) (hq : pc + 3 = q)
    (kk : V p l e R s m args below meth c ad D cI cZ cG A nL kc ks Q σ q lv (.long (lI (σ k j)) :: st)) : V p l e R s m args below meth c ad D cI cZ cG A nL kc ks Q σ pc lv (.ref (ad k) :: st) := by
  subst hq
  intro H locs ls hP hS hl
  have hE : xE ad cI cZ cG σ k = .inr (ci, fvs ad (σ k) 0 fl) := by unfold xE; rw [hl0]; rfl
  exact va_get C.1 C.2.1 C.2.2.2.2.1 F.2.2.1 C.2.2.2.1 C.2.2.2.2.2.1.1 hP k (wl_get hk hE) F.1 j F.2.1 (C.2.2.2.2.1 _ F.2.2.2) (fun _ h9 => h9) (by rw [fvs_get, hf]; simp [fv, fi, f_, fl_]) hd (kk H locs ls hP hS hl)
theorem x_putI {k : Nat} {z : Int} (C : Cx p s m args meth c ad D cI cZ cG A cc nL own ret) (hk : k < 65) {ci : Nat} {fl : List (Option (Option Nat))} (hl0 : lay k = cO ci fl) {Cn : String} {T : u_T} {N j idx : Nat} (F : FldOK own idx ci j Cn T N) (hf : fl[j]? = some fi) (ty0 : Nat → FieldType) (hty : ∀ k, k < N → parseFieldDescriptor (T k).2.2.1 = some (ty0 k)) (hnm : ∀ a, a < N → ∀ b, b < N → a ≠ b → (T a).2.1 ≠ (T b).2.1) (hfin : (T j).2.2.2 = false) (hdt : parseFieldDescriptor (T j).2.2.1 = some .int) (hd : decode cc pc = .ok (.putfield idx, 3)) (hq : pc + 3 = q)
    (kk : V p l e R s m args below meth c ad D cI cZ cG A nL kc ks Q (up2 σ k j z) q lv st) : V p l e R s m args below meth c ad D cI cZ cG A nL kc ks Q σ pc lv (.int (iI z) :: .ref (ad k) :: st) := by
  subst hq
  intro H locs ls hP hS hl
  have hE : xE ad cI cZ cG σ k = .inr (ci, fvs ad (σ k) 0 fl) := by unfold xE; rw [hl0]; rfl
  have hlen : j < (fvs ad (σ k) 0 fl).length := by
    rcases Nat.lt_or_ge j (fvs ad (σ k) 0 fl).length with q9 | q9
    · exact q9
    · have h9 := fvs_get ad (σ k) fl 0 j
      rw [List.getElem?_eq_none q9, hf] at h9
      simp at h9
  refine va_put C.1 C.2.1 C.2.2.2.2.1 F.2.2.1 ty0 hty hnm C.2.2.2.1 C.2.2.2.2.2.1.1 hP (wl_D C.2.2.2.2.2.2.1 C.2.2.2.2.2.2.2.1 σ) hS k (wl_get hk hE) F.1 j F.2.1 (C.2.2.2.2.1 _ F.2.2.2) (fun _ h9 => h9) hfin hdt rfl rfl hlen hd (fun H1 locs1 hP1 _ hS1 => ?_)
  rw [fvs_set hf z (.int (iI z)) rfl (fun c h => by cases h)] at hP1
  rw [wl_set (σ' := up2 σ k j z) hk (by unfold xE; rw [hl0]; simp [cO, up2, upR]) (fun i hi => xE_other i hi)] at hP1
  exact kk H1 locs1 ls hP1 hS1 hl
theorem x_putL {k : Nat} {z : Int} (C : Cx p s m args meth c ad D cI cZ cG A cc nL own ret) (hk : k < 65) {ci : Nat} {fl : List (Option (Option Nat))} (hl0 : lay k = cO ci fl) {Cn : String} {T : u_T} {N j idx : Nat} (F : FldOK own idx ci j Cn T N) (hf : fl[j]? = some fl_) (ty0 : Nat → FieldType) (hty : ∀ k, k < N → parseFieldDescriptor (T k).2.2.1 = some (ty0 k)) (hnm : ∀ a, a < N → ∀ b, b < N → a ≠ b → (T a).2.1 ≠ (T b).2.1) (hfin : (T j).2.2.2 = false) (hdt : parseFieldDescriptor (T j).2.2.1 = some .long) (hd : decode cc pc = .ok (.putfield idx, 3)) (hq : pc + 3 = q)
    (kk : V p l e R s m args below meth c ad D cI cZ cG A nL kc ks Q (up2 σ k j z) q lv st) : V p l e R s m args below meth c ad D cI cZ cG A nL kc ks Q σ pc lv (.long (lI z) :: .ref (ad k) :: st) := by
  subst hq
  intro H locs ls hP hS hl
  have hE : xE ad cI cZ cG σ k = .inr (ci, fvs ad (σ k) 0 fl) := by unfold xE; rw [hl0]; rfl
  have hlen : j < (fvs ad (σ k) 0 fl).length := by
    rcases Nat.lt_or_ge j (fvs ad (σ k) 0 fl).length with q9 | q9
    · exact q9
    · have h9 := fvs_get ad (σ k) fl 0 j
      rw [List.getElem?_eq_none q9, hf] at h9
      simp at h9
  refine va_put C.1 C.2.1 C.2.2.2.2.1 F.2.2.1 ty0 hty hnm C.2.2.2.1 C.2.2.2.2.2.1.1 hP (wl_D C.2.2.2.2.2.2.1 C.2.2.2.2.2.2.2.1 σ) hS k (wl_get hk hE) F.1 j F.2.1 (C.2.2.2.2.1 _ F.2.2.2) (fun _ h9 => h9) hfin hdt rfl rfl hlen hd (fun H1 locs1 hP1 _ hS1 => ?_)
  rw [fvs_set hf z (.long (lI z)) rfl (fun c h => by cases h)] at hP1
  rw [wl_set (σ' := up2 σ k j z) hk (by unfold xE; rw [hl0]; simp [cO, up2, upR]) (fun i hi => xE_other i hi)] at hP1
  exact kk H1 locs1 ls hP1 hS1 hl
theorem x_iald {k n : Nat} {i : Int} (C : Cx p s m args meth c ad D cI cZ cG A cc nL own ret) (hk : k < 65) (hl0 : lay k = cA n) (hd : decode cc pc = .ok (.iaload, 1)) (hi : 0 ≤ i ∧ i < (n : Int)) (hn : n < 2147483648) (hq : pc + 1 = q)
    (kk : V p l e R s m args below meth c ad D cI cZ cG A nL kc ks Q σ q lv (.int (iI (σ k i.toNat)) :: st)) : V p l e R s m args below meth c ad D cI cZ cG A nL kc ks Q σ pc lv (.int (iI i) :: .ref (ad k) :: st) := by
  subst hq
  intro H locs ls hP hS hl
  have hE : xE ad cI cZ cG σ k = .inl (cI, n, .inl (fun i => iI (σ k i))) := by unfold xE; rw [hl0]; rfl
  refine va_iald C.1 C.2.1 C.2.2.2.2.2.1.1 hP k 0 (wl_get hk hE) rfl (iI_in hi.1 hi.2 hn) hd ?_
  rw [iI_clamp hi.1 (by omega)]
  exact kk H locs ls hP hS hl
theorem x_bald {k n : Nat} {i : Int} (C : Cx p s m args meth c ad D cI cZ cG A cc nL own ret) (hk : k < 65) (hl0 : lay k = cB n) (hd : decode cc pc = .ok (.baload, 1)) (hi : 0 ≤ i ∧ i < (n : Int)) (hn : n < 2147483648) (hq : pc + 1 = q)
    (kk : V p l e R s m args below meth c ad D cI cZ cG A nL kc ks Q σ q lv (.int (iI (σ k i.toNat)) :: st)) : V p l e R s m args below meth c ad D cI cZ cG A nL kc ks Q σ pc lv (.int (iI i) :: .ref (ad k) :: st) := by
  subst hq
  intro H locs ls hP hS hl
  have hE : xE ad cI cZ cG σ k = .inl (cZ, n, .inl (fun i => iI (σ k i))) := by unfold xE; rw [hl0]; rfl
  refine va_zald C.1 C.2.1 C.2.2.2.2.2.1.1 hP k 1 (wl_get hk hE) rfl (iI_in hi.1 hi.2 hn) hd ?_
  rw [iI_clamp hi.1 (by omega)]
  exact kk H locs ls hP hS hl
theorem x_iast {k n : Nat} {i z : Int} (C : Cx p s m args meth c ad D cI cZ cG A cc nL own ret) (hk : k < 65) (hl0 : lay k = cA n) (hd : decode cc pc = .ok (.iastore, 1)) (hi : 0 ≤ i ∧ i < (n : Int)) (hn : n < 2147483648)  (hq : pc + 1 = q)
    (kk : V p l e R s m args below meth c ad D cI cZ cG A nL kc ks Q (up2 σ k i.toNat z) q lv st) : V p l e R s m args below meth c ad D cI cZ cG A nL kc ks Q σ pc lv (.int (iI z) :: .int (iI i) :: .ref (ad k) :: st) := by
  subst hq
  intro H locs ls hP hS hl
  have hE : xE ad cI cZ cG σ k = .inl (cI, n, .inl (fun i => iI (σ k i))) := by unfold xE; rw [hl0]; rfl
  refine va_iast C.1 C.2.1 C.2.2.2.2.2.1.1 hP (wl_D C.2.2.2.2.2.2.1 C.2.2.2.2.2.2.2.1 σ) hS k 0 (wl_get hk hE) rfl (iI_in hi.1 hi.2 hn) hd (fun H1 locs1 hP1 _ hS1 => ?_)
  have hE2 : xE ad cI cZ cG (up2 σ k i.toNat z) k = .inl (cI, n, .inl (upd (fun i => iI (σ k i)) (iI i).toNatClampNeg (iI z))) := by
    have e0 : upd (fun i => iI (σ k i)) (iI i).toNatClampNeg (iI z) = fun j => iI (up2 σ k i.toNat z k j) := by
      funext j
      rw [iI_clamp hi.1 (by omega)]
      by_cases e : j = i.toNat
      · simp [upd, up2, upR, up1, e]
      · simp [upd, up2, upR, up1, e]
    unfold xE
    rw [hl0, e0]
    rfl
  rw [wl_set (σ' := up2 σ k i.toNat z) hk hE2 (fun j hj => xE_other j hj)] at hP1
  exact kk H1 locs1 ls hP1 hS1 hl
theorem x_bast {k n : Nat} {i z : Int} (C : Cx p s m args meth c ad D cI cZ cG A cc nL own ret) (hk : k < 65) (hl0 : lay k = cB n) (hd : decode cc pc = .ok (.bastore, 1)) (hi : 0 ≤ i ∧ i < (n : Int)) (hn : n < 2147483648) (hz : z = 0 ∨ z = 1) (hq : pc + 1 = q)
    (kk : V p l e R s m args below meth c ad D cI cZ cG A nL kc ks Q (up2 σ k i.toNat z) q lv st) : V p l e R s m args below meth c ad D cI cZ cG A nL kc ks Q σ pc lv (.int (iI z) :: .int (iI i) :: .ref (ad k) :: st) := by
  subst hq
  intro H locs ls hP hS hl
  have hE : xE ad cI cZ cG σ k = .inl (cZ, n, .inl (fun i => iI (σ k i))) := by unfold xE; rw [hl0]; rfl
  refine va_zast C.1 C.2.1 C.2.2.2.2.2.1.1 hP (wl_D C.2.2.2.2.2.2.1 C.2.2.2.2.2.2.2.1 σ) hS k 1 (wl_get hk hE) rfl (iI_in hi.1 hi.2 hn) hd (fun H1 locs1 hP1 _ hS1 => ?_)
  have hE2 : xE ad cI cZ cG (up2 σ k i.toNat z) k = .inl (cZ, n, .inl (upd (fun i => iI (σ k i)) (iI i).toNatClampNeg (vp_nar .boolean (iI z)))) := by
    have e0 : upd (fun i => iI (σ k i)) (iI i).toNatClampNeg (vp_nar .boolean (iI z)) = fun j => iI (up2 σ k i.toNat z k j) := by
      funext j
      rw [iI_clamp hi.1 (by omega)]
      by_cases e : j = i.toNat
      · simp [upd, up2, upR, up1, e, show vp_nar .boolean (iI z) = iI z by rcases hz with rfl | rfl <;> rfl]
      · simp [upd, up2, upR, up1, e]
    unfold xE
    rw [hl0, e0]
    rfl
  rw [wl_set (σ' := up2 σ k i.toNat z) hk hE2 (fun j hj => xE_other j hj)] at hP1
  exact kk H1 locs1 ls hP1 hS1 hl
theorem x_aald {k n base : Nat} {i : Int} (C : Cx p s m args meth c ad D cI cZ cG A cc nL own ret) (hk : k < 65) (hl0 : lay k = cR n base) (hd : decode cc pc = .ok (.aaload, 1)) (hi : 0 ≤ i ∧ i < (n : Int)) (hn : n < 2147483648) (hq : pc + 1 = q)
    (kk : V p l e R s m args below meth c ad D cI cZ cG A nL kc ks Q σ q lv (.ref (ad (base + i.toNat)) :: st)) : V p l e R s m args below meth c ad D cI cZ cG A nL kc ks Q σ pc lv (.int (iI i) :: .ref (ad k) :: st) := by
  subst hq
  intro H locs ls hP hS hl
  have hE : xE ad cI cZ cG σ k = .inl (cG, n, .inr (.inr (.inr (.inr (fun i => if i < n then some (ad (base + i)) else none))))) := by unfold xE; rw [hl0]; rfl
  have hlt : (iI i).toNatClampNeg < n := by rw [iI_clamp hi.1 (by omega)]; omega
  have e1 : va_rf (if (iI i).toNatClampNeg < n then some (ad (base + (iI i).toNatClampNeg)) else none) = .ref (ad (base + i.toNat)) := by
    rw [if_pos hlt, iI_clamp hi.1 (by omega)]
    rfl
  exact W.aald (v := .ref (ad (base + i.toNat))) (ty := .array .int) C.1 C.2.1 (hP k _ (wl_get hk hE)) ((C.2.2.2.2.2.1.1.2 2 _ rfl).1 n (fun j => va_rf (if j < n then some (ad (base + j)) else none))) rfl (fun h9 => by cases h9) (by show ¬ (iI i < 0 ∨ (arrV _ _ _).slots.size ≤ _); rw [arrV_size]; exact iI_in hi.1 hi.2 hn) (by show (arrV _ _ _).slots[_]? = _; rw [arrV_read _ _ hlt, e1]) rfl rfl hd (kk H locs ls hP hS hl)
theorem x_alen {k n : Nat} (C : Cx p s m args meth c ad D cI cZ cG A cc nL own ret) (hk : k < 65) (hl0 : lay k = cA n) (hd : decode cc pc = .ok (.arraylength, 1)) (hq : pc + 1 = q)
    (kk : V p l e R s m args below meth c ad D cI cZ cG A nL kc ks Q σ q lv (.int (iI (n : Int)) :: st)) : V p l e R s m args below meth c ad D cI cZ cG A nL kc ks Q σ pc lv (.ref (ad k) :: st) := by
  subst hq
  intro H locs ls hP hS hl
  have hE : xE ad cI cZ cG σ k = .inl (cI, n, .inl (fun i => iI (σ k i))) := by unfold xE; rw [hl0]; rfl
  exact va_alen C.1 C.2.1 C.2.2.2.2.2.1.1 hP k 0 (wl_get hk hE) rfl (iI_nat n).symm hd (kk H locs ls hP hS hl)
end XR
end
