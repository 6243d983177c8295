/-! ===== most ===== -/
theorem fo_all {V : Nat → Prop} [DecidablePred V] {st : Nat → Int × Int → Int × Int} {z : Int × Int} {P : Int × Int → Prop} (hz : P z) (hs : ∀ m a, P a → P (st m a)) : ∀ m, P (fo V st z m)
  | 0 => hz
  | m + 1 => by
      unfold fo
      split
      · exact hs m _ (fo_all hz hs m)
      · exact fo_all hz hs m
theorem fo_t {V : Nat → Prop} [DecidablePred V] {st : Nat → Int × Int → Int × Int} {z : Int × Int} {m : Nat} (h : V m) : fo V st z (m + 1) = st m (fo V st z m) := if_pos h
theorem fo_f {V : Nat → Prop} [DecidablePred V] {st : Nat → Int × Int → Int × Int} {z : Int × Int} {m : Nat} (h : ¬ V m) : fo V st z (m + 1) = fo V st z m := if_neg h
theorem fo_c {σ σ8 : GS} (f3 : σ8 3 = σ 3) (f4 : σ8 4 = σ 4) (st : Nat → Int × Int → Int × Int) (z : Int × Int) : ∀ m, fo (Vw σ8) st z m = fo (Vw σ) st z m
  | 0 => rfl
  | m + 1 => by
      have ih := fo_c f3 f4 st z m
      have ev : Vw σ8 m ↔ Vw σ m := by unfold Vw gG; rw [f4, f3]
      by_cases c : Vw σ m
      · rw [fo_t c, fo_t (ev.mpr c), ih]
      · rw [fo_f c, fo_f (fun q => c (ev.mp q)), ih]
abbrev ltw (σ : GS) (side : Int) (w : Nat) : Int → Int := ltr side 63 (σ 4) (dgr (gG σ) w) (σ 5) (σ 3 2).toNat
def tmw (σ : GS) (a0 : Int) (w : Nat) : Int := cnt (fun p => ltw σ 0 w p = a0) 28
theorem tmw_rg (σ : GS) (a0 : Int) (w : Nat) : 0 ≤ tmw σ a0 w ∧ tmw σ a0 w ≤ 28 := by
  have := cnt_rg (fun p : Nat => ltw σ 0 w p = a0) 28
  unfold tmw
  omega
theorem x_ltw {σ σ8 : GS} {side : Int} {w : Nat} (h : XW σ side w σ8) (p : Int) : lv_ σ8 63 (σ8 9) p = ltw σ side w p := by
  obtain ⟨h1, h2, h3, h4, h5, h7⟩ := h
  unfold lv_ ltw
  rw [h7, h4, h3.1 4 (by decide) (by decide) (by omega), h3.1 5 (by decide) (by decide) (by omega), h3.1 3 (by decide) (by decide) (by omega)]
theorem m_ltw {σ σ9 : GS} {w : Nat} (hI : Inv σ) (h : MW σ w σ9) {side : Int} (hs : side = 0 ∨ side = 1) (p : Int) : ltw σ side w p = if sM σ9 1 63 side p < 0 then -9 else lM σ9 1 63 side p + 97 := by
  have I9 := hI.scM h.1
  have f3 : σ9 3 = σ 3 := h.1.1 3 (by decide) (by decide) (by decide) (by decide)
  have := ltr_XM I9.F (gp := dgr (gG σ) w) (L := 1) (fun g hg => h.2 g (by rw [← f3]; exact hg)) (side := side) (by omega) 63 p
  rw [f3, h.1.1 4 (by decide) (by decide) (by decide) (by decide), h.1.1 5 (by decide) (by decide) (by decide) (by decide)] at this
  exact this
theorem m_times {σ σ9 : GS} {w : Nat} {a0 : Int} {Post : Int → Prop} (hI : Inv σ) (h : MW σ w σ9) (ha : 97 ≤ a0 ∧ a0 ≤ 122) (hp : Post (tmw σ a0 w)) : vc_X10_timesSeen σ9 (a0 - 97) Post := by
  have I9 := hI.scM h.1
  refine s_X10_timesSeen I9.F.2.1 I9.G.2.1 I9.F.2.2.2.2.2.1 (by omega) ?_
  have e : cnt (fun p => lM σ9 1 63 0 p = a0 - 97) 28 = tmw σ a0 w := by
    unfold tmw
    refine cnt_congr (fun k _ => ?_)
    rw [m_ltw hI h (Or.inl rfl)]
    have := lM_n I9 1 63 0 k
    split <;> omega
  rw [e]
  exact hp
def stM (σ : GS) (a0 : Int) (w : Nat) (a : Int × Int) : Int × Int := if tmw σ a0 w ≤ a.1 then a else (tmw σ a0 w, fgw σ w)
abbrev bnd (a : Int × Int) : Prop := (-9 ≤ a.1 ∧ a.1 ≤ 100000) ∧ (-9 ≤ a.2 ∧ a.2 ≤ 100000)
theorem stM_b {σ : GS} (hI : Inv σ) (a0 : Int) (w : Nat) (a : Int × Int) (h : bnd a) : bnd (stM σ a0 w a) := by
  have h1 := tmw_rg σ a0 w
  have h2 := fgw_rg hI w
  unfold stM
  split
  · exact h
  · exact ⟨⟨by show -9 ≤ tmw σ a0 w; omega, by show tmw σ a0 w ≤ 100000; omega⟩, ⟨by show -9 ≤ fgw σ w; omega, by show fgw σ w ≤ 100000; omega⟩⟩
theorem stM_0 (σ : GS) (a0 : Int) : ∀ m : Nat, 1 ≤ m → fo (Vw σ) (stM σ a0) (-9, 0) m = fo (Vw σ) (stM σ a0) (-9, -9) m
  | 0, h => absurd h (by decide)
  | m + 1, _ => by
      by_cases e : m = 0
      · subst e
        have v0 : Vw σ 0 := fun g _ => Or.inr (dg_0 _ _)
        rw [fo_t v0, fo_t v0]
        have h1 := tmw_rg σ a0 0
        show stM σ a0 0 (-9, 0) = stM σ a0 0 (-9, -9)
        unfold stM
        rw [if_neg (show ¬ tmw σ a0 0 ≤ -9 by omega), if_neg (show ¬ tmw σ a0 0 ≤ -9 by omega)]
      · have ih := stM_0 σ a0 m (by omega)
        unfold fo
        rw [ih]
theorem s_X10_most {σ : GS} {a0 a1 : Int} {Post : Int → GS → Prop} (hI : Inv σ) (ha : 97 ≤ a0 ∧ a0 ≤ 122) (h1 : a1 = 0 ∨ a1 = 1) (hp : ∀ σ', scM σ σ' → Post (if a1 = 0 then (fo (Vw σ) (stM σ a0) (-9, -9) (5 ^ gG σ)).1 else (fo (Vw σ) (stM σ a0) (-9, -9) (5 ^ gG σ)).2) σ') : vc_X10_most σ a0 a1 Post := by
  unfold vc_X10_most
  have g := gG_le hI
  rw [← stM_0 σ a0 (5 ^ gG σ) g.2.2] at hp
  refine ⟨by omega, s_X10_in (by omega) (by decide) (by decide) (bi_eq (fun c => absurd ha c) (fun _ => ⟨by omega, s_X10_in (by omega) (by decide) (by decide) (bi_ne (fun _ => ?_) (fun c => absurd c (by omega)))⟩))⟩
  refine ⟨fun n v3 v4 v5 σ9 => ∃ w : Nat, w ≤ 5 ^ gG σ ∧ n = 5 ^ gG σ - w ∧ v5 = w ∧ (v3, v4) = fo (Vw σ) (stM σ a0) (-9, 0) w ∧ scM σ σ9, ⟨5 ^ gG σ, 0, by omega, by omega, rfl, rfl, scM.rf hI.G.2.1⟩, ?_⟩
  rintro n v3 v4 v5 σ9 ⟨w, q1, q2, rfl, q3, s⟩
  have hb : bnd (v3, v4) := by
    rw [q3]
    exact fo_all (P := bnd) ⟨by decide, by decide⟩ (fun m a h => stM_b hI a0 m a h) w
  have hb1 : -9 ≤ v3 ∧ v3 ≤ 100000 := hb.1
  refine m_many hI s ⟨by omega, by omega, fun z => ?_, fun z => ?_⟩
  · have e : w = 5 ^ gG σ := by omega
    subst e
    have := hp σ9 s
    rw [← q3] at this
    refine ⟨fun d => ?_, fun d => ?_⟩
    · rw [if_neg d] at this; exact this
    · rw [if_pos d] at this; exact this
  · have hw : w < 5 ^ gG σ := by omega
    have o1 : 5 ^ gG σ - (w + 1) < n := by omega
    refine m_way hI s hw (fun σ2 mw => bi_eq (fun nv => ⟨by omega, fun _ => ⟨fun _ => ⟨5 ^ gG σ - (w + 1), o1, w + 1, hw, rfl, rfl, by rw [fo_f nv]; exact q3, mw.1⟩, fun c => absurd hb1.1 c⟩, fun c => absurd hb1.1 c⟩) (fun v => m_times hI mw ha ?_))
    have ht := tmw_rg σ a0 w
    refine ⟨by omega, by omega, fun c => ⟨fun _ => ⟨5 ^ gG σ - (w + 1), o1, w + 1, hw, rfl, rfl, ?_, mw.1⟩, fun d => absurd c d⟩, fun c => m_fig hI mw ⟨fun d => absurd d c, fun _ => ⟨5 ^ gG σ - (w + 1), o1, w + 1, hw, rfl, rfl, ?_, mw.1⟩⟩⟩
    · rw [fo_t v, ← q3]; unfold stM; rw [if_pos c]
    · rw [fo_t v, ← q3]; unfold stM; rw [if_neg c]
theorem q_most {σ : GS} {a0 a1 : Int} {K : Int → Int → GS → Prop} (hI : Inv σ) (h0 : rg a0) (h1 : rg a1) (hK : ∀ z σ', rg z → Inv σ' → K z z σ') : vc_X9_most σ a0 a1 (fun z σ1 => vc_X10_most σ1 a0 a1 (fun z' σ2 => K z z' σ2)) := by
  unfold vc_X9_most
  have g := gG_le hI
  refine s_X9_isLetter h0 (bi_eq (fun p0 => ?_) (fun p0 => s_X9_isBit h1 (bi_ne (fun p1 => x_begin hI (Or.inl rfl) (fun σ7 xw => ?_)) (fun p1 => ?_))))
  · unfold vc_X10_most
    exact ⟨h0, s_X10_in (rl h0) (by decide) (by decide) (bi_eq (fun _ => hK _ _ (by decide) hI) (fun c => absurd c p0))⟩
  · refine ⟨XI σ 0 (fo (Vw σ) (stM σ a0) (-9, -9)), ⟨5 ^ gG σ, Or.inr ⟨rfl, 0, xw, rfl, by omega, by omega, rfl⟩⟩, ?_⟩
    have fin : ∀ v3 v4 σ8, (v3, v4) = fo (Vw σ) (stM σ a0) (-9, -9) (5 ^ gG σ) → scX σ σ8 → (rg a1) ∧ ((¬ a1 = 0 → vc_X10_most σ8 a0 a1 (fun z' σ2 => K v4 z' σ2)) ∧ (a1 = 0 → vc_X10_most σ8 a0 a1 (fun z' σ2 => K v3 z' σ2))) := by
      intro v3 v4 σ8 hv s
      have I8 := hI.scX s
      have f3 : σ8 3 = σ 3 := s.1 3 (by decide) (by decide) (by omega) (by omega)
      have f4 : σ8 4 = σ 4 := s.1 4 (by decide) (by decide) (by omega) (by omega)
      have f5 : σ8 5 = σ 5 := s.1 5 (by decide) (by decide) (by omega) (by omega)
      have eG : gG σ8 = gG σ := by unfold gG; rw [f3]
      have hb : bnd (v3, v4) := by
        rw [hv]
        exact fo_all (P := bnd) ⟨by decide, by decide⟩ (fun m a h => stM_b hI a0 m a h) _
      have hb1 : -9 ≤ v3 ∧ v3 ≤ 100000 := hb.1
      have hb2 : -9 ≤ v4 ∧ v4 ≤ 100000 := hb.2
      have eA : fo (Vw σ8) (stM σ8 a0) (-9, -9) (5 ^ gG σ8) = (v3, v4) := by
        rw [hv]
        have e1 : stM σ8 a0 = stM σ a0 := by
          funext w a
          unfold stM tmw fgw ltw
          rw [f3, f4, f5, eG]
        rw [e1, fo_c f3 f4, eG]
      refine ⟨h1, fun d => s_X10_most I8 p0 p1 (fun σ2 s2 => ?_), fun d => s_X10_most I8 p0 p1 (fun σ2 s2 => ?_)⟩
      · rw [eA, if_neg d]; exact hK _ _ (by omega) (I8.scM s2)
      · rw [eA, if_pos d]; exact hK _ _ (by omega) (I8.scM s2)
    rintro n v3 v4 v5 v6 σ8 (⟨rfl, q2, q3, q4, q5⟩ | ⟨rfl, w, xw, q2, q3, q4, q5⟩)
    · exact ⟨by decide, fun _ => fin v3 v4 σ8 q2 q3, fun c => absurd rfl c⟩
    · have hb : bnd (v3, v4) := by
        rw [q2]
        exact fo_all (P := bnd) ⟨by decide, by decide⟩ (fun m a h => stM_b hI a0 m a h) _
      have hb1 : -9 ≤ v3 ∧ v3 ≤ 100000 := hb.1
      have hw := xw.1
      refine ⟨by decide, fun c => absurd c (by decide), fun _ => ⟨by omega, fun c => absurd c (by omega), fun _ => ?_⟩⟩
      have s8 := xw.2.2.1
      have I8 := hI.scX s8.sc
      refine s_X6_placesWith xw.2.2.2.2.1 (fun i => by have := I8.F.2.2.2.2.1 i; omega) (by omega) ?_
      have e : cnt (fun p => lv_ σ8 63 (σ8 9) p = a0) 28 = tmw σ a0 w := cnt_congr (fun k _ => by rw [x_ltw xw])
      rw [e]
      have ht := tmw_rg σ a0 w
      refine ⟨by omega, by omega, fun c => x_next hI xw ?_ ⟨q3, q4⟩ q5, fun c => x_fig xw (x_next hI xw ?_ ⟨q3, q4⟩ q5)⟩
      · rw [fo_t xw.2.1, ← q2]; unfold stM; rw [if_pos c]
      · rw [fo_t xw.2.1, ← q2]; unfold stM; rw [if_neg c]
  · unfold vc_X10_most
    exact ⟨h0, s_X10_in (rl h0) (by decide) (by decide) (bi_eq (fun c => absurd p0 c) (fun _ => ⟨h1, s_X10_in (rl h1) (by decide) (by decide) (bi_ne (fun c => absurd c (by omega)) (fun _ => hK _ _ (by decide) hI))⟩))⟩
