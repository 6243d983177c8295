set_option maxHeartbeats 4000000 in
theorem ctx_start {s : State} {args : Array Value} (hts : ∀ w ∈ lw_tbl, w.before args s = true) : ∃ (D : va_G) (cI cZ cG : ClassId), Kc D cI cZ cG s := by
  have ht : ∀ w ∈ TT, w.before args s = true := fun w h => hts w (TT_tbl h)
  obtain ⟨c0, iS0, hKn0⟩ := u_known (C := RX0) (T := TX0) (N := 2) (n := 2) ht inX0 (ht _ t1_123)
  obtain ⟨c1, iS1, hKn1⟩ := u_known (C := RX1) (T := TX1) (N := 3) (n := 3) ht inX1 (ht _ t1_38)
  obtain ⟨c2, iS2, hKn2⟩ := u_known (C := RX2) (T := TX2) (N := 2) (n := 2) ht inX2 (ht _ t1_54)
  obtain ⟨c3, iS3, hKn3⟩ := u_known (C := RX3) (T := TX3) (N := 2) (n := 2) ht inX3 (ht _ t1_24)
  obtain ⟨c4, iS4, hKn4⟩ := u_known (C := RX4) (T := TX4) (N := 2) (n := 2) ht inX4 (ht _ t1_137)
  obtain ⟨c5, iS5, hKn5⟩ := u_known (C := RX5) (T := TX5) (N := 4) (n := 4) ht inX5 (ht _ t1_152)
  obtain ⟨c6, iS6, hKn6⟩ := u_known (C := RX6) (T := TX6) (N := 5) (n := 5) ht inX6 (ht _ t1_67)
  obtain ⟨c7, iS7, hKn7⟩ := u_known (C := RX7) (T := TX7) (N := 3) (n := 3) ht inX7 (ht _ t1_94)
  obtain ⟨c8, iS8, hKn8⟩ := u_known (C := RX8) (T := TX8) (N := 2) (n := 2) ht inX8 (ht _ t1_110)
  obtain ⟨c9, iS9, hKn9⟩ := u_known (C := RX9) (T := TX9) (N := 14) (n := 14) ht inX9 (ht _ t1_16)
  obtain ⟨c10, iS10, hKn10⟩ := u_known (C := RX10) (T := TX10) (N := 21) (n := 21) ht inX10 (ht _ t3_198)
  obtain ⟨cI, kI, ccI, fI, kI1, kI2⟩ := Cond.arrayClass_spec (ht _ t1_36)
  obtain ⟨cZ, kZ, ccZ, fZ, kZ1, kZ2⟩ := Cond.arrayClass_spec (ht _ t1_150)
  obtain ⟨cp, cG, kG, fcp, fG, kG1, kG2⟩ := mn_over (hts _ in_nwO_t)
  refine ⟨(fun k => ([c0, c1, c2, c3, c4, c5, c6, c7, c8, c9, c10] : List ClassId).getD k c0, fun k => ([iS0, iS1, iS2, iS3, iS4, iS5, iS6, iS7, iS8, iS9, iS10] : List (Nat → Nat)).getD k iS0), cI, cZ, cG, ⟨⟨⟨?_, ?_⟩, va_Nw.of rfl (hts _ in_nw1_t), va_Nw.of rfl (hts _ in_nw2_t)⟩, va_Nw.of rfl (hts _ in_nw_11_t), va_Nw.of rfl (hts _ in_nw_18_t), va_Nw.of rfl (hts _ in_nw_53_t), va_Nw.of rfl (hts _ in_nw_60_t), va_Nw.of rfl (hts _ in_nw_67_t), va_Nw.of rfl (hts _ in_nw_74_t), hts _ in_nwO_t⟩⟩
  · intro k q hq
    match k, hq with
    | 0, hq => cases hq; exact hKn0
    | 1, hq => cases hq; exact hKn1
    | 2, hq => cases hq; exact hKn2
    | 3, hq => cases hq; exact hKn3
    | 4, hq => cases hq; exact hKn4
    | 5, hq => cases hq; exact hKn5
    | 6, hq => cases hq; exact hKn6
    | 7, hq => cases hq; exact hKn7
    | 8, hq => cases hq; exact hKn8
    | 9, hq => cases hq; exact hKn9
    | 10, hq => cases hq; exact hKn10
    | k + 11, hq => simp [vwCl] at hq
  · intro k q hq
    match k, hq with
    | 0, hq => cases hq; exact ⟨fun n z => ⟨fun k h => (by cases h), kI, kI1, ccI, kI2⟩, fI⟩
    | 1, hq => cases hq; exact ⟨fun n z => ⟨fun k h => (by cases h), kZ, kZ1, ccZ, kZ2⟩, fZ⟩
    | 2, hq => cases hq; exact ⟨fun n z => ⟨fun k h => (by cases h), kG, kG1, cp, kG2⟩, fG⟩
    | k + 3, hq => simp [tys3] at hq
def lw_P (b : Addr) (xs : List Int32) (args : Array Value) (s : State) : Prop := args = #[.ref b] ∧ s.IntsAt b xs ∧ xs.length ≤ 2048 ∧ (Jvm.Cond.and given_1 narrow_1).before args s = true
/-- what holds at the law's entry: the machine, the code, the tables' words (any of lw_tbl by 'hts w (by decide +kernel)'), the script of L ints xs at the cell b, what the Statement gives of the start (any of its parts by flat_of_before) -/
def lw_At (p : Program) (s : State) (m : MethodId) (meth : Method) (c : Code) (b L : Nat) (xs : Nat → Int32) : Prop :=
  p.tables.exec = Jvm.exec ∧ c.code = code ∧ meth.sig.returnType = ret ∧ c.maxLocals = 4 ∧ s.vm.findClass R_law = some m.cls ∧ (∀ w ∈ lw_tbl, w.before #[Value.ref b] s = true) ∧ va_X b L xs s s.heap ∧ b < s.heap.size ∧ meth.locks = false ∧ (Jvm.Cond.and given_1 narrow_1).before #[Value.ref b] s = true
set_option maxHeartbeats 8000000 in
set_option maxRecDepth 20000 in
theorem whole_of {p : Program} {e : Env} {s : State} {m : MethodId} {below : List Frame} {meth : Method} {c : Code} (l : Launch) {b L : Nat} {xs : Nat → Int32} (hL : L ≤ 2048) (C0 : lw_At p s m meth c b L xs) (hvc : vc_law L xs σ0) : W p l e room_1 s m #[Value.ref b] below meth c s.heap [] 0 0 (lw_Z below #[Value.ref b] s) (entryFrame m ([Value.ref b] : List Value).toArray 4) := by
  obtain ⟨hx, hb, hr, hml, hown, hts, hX, hbl, hlocks, hgv⟩ := C0
  obtain ⟨D, cI, cZ, cG, hKc⟩ := ctx_start hts
  have hl := lv_entry ([.ref b]) (n := 4) (Nat.le_of_ble_eq_true rfl)
  rw [lg_entry_eq]
  generalize (lg_sl ([.ref b]) ++ List.replicate (4 - (lg_sl ([.ref b])).length) Slot.unset).toArray = ls at hl ⊢
  have C : Cg p s m #[Value.ref b] meth c D cI cZ cG (fun q => s.heap.size ≤ q) cL_law 4 RL false ret := ⟨hx, hb, hml, hown, fun w h => hts w (TT_tbl h), hKc, fun _ h => h, hr, hlocks, fun h => by cases h⟩
  have K : G p l e room_1 s m #[Value.ref b] below meth c D (fun q => s.heap.size ≤ q) 4 (lw_Z below #[Value.ref b] s) 0 0 [] 0 [(0, .ref b)] [] := by
    refine g_new (q := 3) (ci := 9) (fs := [.null, .null, .null, .null, .null, .null, .null, .null, .null, .null, .null, .null, .null, .long 0]) C dL_law_0 rfl inX9 tyX9 tyX9_ok ⟨t1_15, t1_16, t1_1⟩ (fun j hj => by rcases (show j = 0 ∨ j = 1 ∨ j = 2 ∨ j = 3 ∨ j = 4 ∨ j = 5 ∨ j = 6 ∨ j = 7 ∨ j = 8 ∨ j = 9 ∨ j = 10 ∨ j = 11 ∨ j = 12 ∨ j = 13 by omega) with rfl | rfl | rfl | rfl | rfl | rfl | rfl | rfl | rfl | rfl | rfl | rfl | rfl | rfl <;> rfl) ⟨Nat.le_of_ble_eq_true rfl, Nat.le_of_ble_eq_true rfl⟩ rfl (fun q0 => ?_)
    refine g_dup (q := 4) C dL_law_3 rfl rfl ?_
    refine g_init (q := 7) (wr := []) C dL_law_4 ik_RL_9 rfl t1_18 (fun sz => k_X9_init l q0 sz) [0] [] rfl rfl (by decide) (by decide) (by decide) ⟨⟨rfl, rfl⟩, ⟨Nat.le_of_ble_eq_true rfl, Nat.le_of_ble_eq_true rfl⟩, ⟨Nat.le_of_ble_eq_true rfl, Nat.le_of_ble_eq_true rfl⟩⟩ rfl rfl (Nat.le_of_ble_eq_true rfl) rfl (fun u => ?_)
    intro H locs ls hP hD hS hl
    refine lv_astore_n (lv' := [(1, .ref q0), (0, .ref b)]) C.1 C.2.1 dL_law_7 rfl hl (by decide) rfl (fun ls hl => ?_)
    have K2 : G p l e room_1 s m #[Value.ref b] below meth c D (fun q => s.heap.size ≤ q) 4 (lw_Z below #[Value.ref b] s) (0 + 1 + 50) (0 + 14 + 497) (W1_X9_init cI cZ cG q0 u) 8 [(1, .ref q0), (0, .ref b)] [] := by
      refine g_new (q := 11) (ci := 10) (fs := [.int 0, .null, .null, .null, .null, .null, .int 0, .null, .int 0, .int 0, .null, .int 0, .int 0, .null, .int 0, .null, .null, .null, .long 0, .null, .null]) C dL_law_8 rfl inX10 tyX10 tyX10_ok ⟨t3_197, t3_198, t1_12⟩ (fun j hj => by rcases (show j = 0 ∨ j = 1 ∨ j = 2 ∨ j = 3 ∨ j = 4 ∨ j = 5 ∨ j = 6 ∨ j = 7 ∨ j = 8 ∨ j = 9 ∨ j = 10 ∨ j = 11 ∨ j = 12 ∨ j = 13 ∨ j = 14 ∨ j = 15 ∨ j = 16 ∨ j = 17 ∨ j = 18 ∨ j = 19 ∨ j = 20 by omega) with rfl | rfl | rfl | rfl | rfl | rfl | rfl | rfl | rfl | rfl | rfl | rfl | rfl | rfl | rfl | rfl | rfl | rfl | rfl | rfl | rfl <;> rfl) ⟨Nat.le_of_ble_eq_true rfl, Nat.le_of_ble_eq_true rfl⟩ rfl (fun q1 => ?_)
      refine g_dup (q := 12) C dL_law_11 rfl rfl ?_
      refine g_init (q := 15) (wr := W1_X9_init cI cZ cG q0 u) C dL_law_12 ik_RL_12 rfl t3_200 (fun sz => k_X10_init l q1 sz) [51] (List.range 51) rfl rfl (by decide) (by decide) (by decide) ⟨⟨rfl, rfl⟩, ⟨Nat.le_of_ble_eq_true rfl, Nat.le_of_ble_eq_true rfl⟩, ⟨Nat.le_of_ble_eq_true rfl, Nat.le_of_ble_eq_true rfl⟩⟩ rfl rfl (Nat.le_of_ble_eq_true rfl) rfl (fun v => ?_)
      intro H locs ls hP hD hS hl
      refine lv_astore_n (lv' := [(2, .ref q1), (1, .ref q0), (0, .ref b)]) C.1 C.2.1 dL_law_15 rfl hl (by decide) rfl (fun ls hl => ?_)
      have hg := ww_all cI cZ cG q0 q1 u v
      have hI : Ij (adx q0 q1 u v) := fun i j hi hj h => hD.1 i j _ _ (hg i hi) (hg j hj) h
      have hP2 : va_P D vwCl (wl (adx q0 q1 u v) cI cZ cG σ0) H := fun k x hx => by
        have hk : k < 65 := by
          have := (List.getElem?_eq_some_iff.mp hx).1
          simpa [wl] using this
        rw [wl_get hk rfl] at hx
        cases hx
        exact hP k _ (hg k hk)
      refine W.widen (k := 600000) (n := 7302250) (Nat.le_of_ble_eq_true rfl) (Nat.le_of_ble_eq_true rfl) ?_
      exact m_law l hI ⟨hx, hb, hml, hown, fun w h => hts w (TT_tbl h), hKc.1, hI, fun k hk => hD.2 k _ (hg k hk), hr, hlocks⟩ hX hbl (by omega) hvc H locs ls hP2 hS (lv_sub hl [2, 1, 0] rfl)
    exact K2 H locs ls hP hD hS hl
  exact K s.heap [] ls (fun k q h => by simp at h) ⟨fun i j p q h => by simp at h, fun k q h => by simp at h⟩ va_S.rf hl
