/-! ===== judge ===== -/
theorem ltr_c {σ : GS} (hn : FanR σ) {f f' : Nat → Int} (h : on5 f f') (side : Int) : ltr side 63 (σ 4) f (σ 5) (σ 3 2).toNat = ltr side 63 (σ 4) f' (σ 5) (σ 3 2).toNat := by
  funext p
  have e := sF_c hn h side p
  have hn1 := hn.1
  unfold sF at e
  unfold ltr mkv
  rw [e]
  split
  · rfl
  · rename_i q
    rcases seen_rg side 63 (σ 4) f' p (σ 3 2).toNat with z | ⟨z1, z2, z3⟩
    · omega
    · rw [sm_congr (f := f) (g := f') (fun k hk => h k (by omega))]
abbrev rF (σ : GS) (side : Int) (f : Nat → Int) : Int := rd side (ltr side 63 (σ 4) f (σ 5) (σ 3 2).toNat) (σ 22) (σ 21 1).toNat
abbrev cF (σ : GS) (f : Nat → Int) (b : Int) : Int := cnt (fun p => sF σ 0 f p = b) 28
abbrev jr (σ : GS) (a0 a1 a2 : Int) (f : Nat → Int) : Prop := (a0 = 1 ∧ a1 = 0 ∧ jc1 σ a2 f) ∨ (a0 = 2 ∧ a1 = 0 ∧ jc2 σ a2 f) ∨ ((a0 = 3 ∨ a0 = 4) ∧ a1 = 0 ∧ a2 = 0) ∨ (a0 = 5 ∧ a1 = 0 ∧ (a2 = 0 ∨ a2 = 1) ∧ 0 ≤ rF σ a2 f) ∨ (a0 = 6 ∧ (0 ≤ a1 ∧ a1 < σ 3 2) ∧ a2 ≤ cF σ f a1) ∨ (a0 = 7 ∧ 10 * a1 + a2 ≤ wF σ f)
def jf (σ : GS) (a0 a2 : Int) (f : Nat → Int) : Nat → Int := if a0 = 1 then jw1 σ a2 f else if a0 = 2 then jw2 σ a2 f else if a0 = 3 then jw3 σ f else if a0 = 4 then (fun _ => 0) else f
theorem jf_5 {σ : GS} {a0 a2 : Int} {f : Nat → Int} (h : g5 f) : g5 (jf σ a0 a2 f) := by
  unfold jf
  split
  · exact jw1_5 h
  · split
    · exact jw2_5 h
    · split
      · exact jw3_5 h
      · split
        · intro g _; show (0 : Int) ≤ 0 ∧ (0 : Int) ≤ 4; decide
        · exact h
def sc9 (σ σ' : GS) : Prop := (∀ c, c ≠ 9 → c ≠ 10 → ¬ (13 ≤ c ∧ c ≤ 19) → σ' c = σ c) ∧ ∀ i : Nat, 5 ≤ i → σ' 9 i = σ 9 i
theorem sc9.rf (σ : GS) : sc9 σ σ := ⟨fun _ _ _ _ => rfl, fun _ _ => rfl⟩
theorem sc9.tr {a b c : GS} (h1 : sc9 a b) (h2 : sc9 b c) : sc9 a c := ⟨fun k p q r => (h2.1 k p q r).trans (h1.1 k p q r), fun i hi => (h2.2 i hi).trans (h1.2 i hi)⟩
theorem sc9.sc {σ σ' : GS} (h : sc9 σ σ') : scX σ σ' := ⟨fun c h1 h2 h3 _ => h.1 c h1 h2 h3, h.2⟩
theorem x9.s9 {σ σ' : GS} (h : x9 σ σ') : sc9 σ σ' := ⟨fun c h1 _ _ => h.1 c h1, h.2⟩
theorem vwl.s9 {σ σ' : GS} (h : vwl σ σ') : sc9 σ σ' := ⟨fun c _ h2 h3 => h c h2 h3, fun i _ => by rw [h 9 (by decide) (by omega)]⟩
theorem s_X9_comesTrue {σ : GS} {a0 a1 a2 : Int} {f : Nat → Int} {Post : Int → GS → Prop} (hI : Inv σ) (hf : on5 (σ 9) f) (h5 : g5 f) (h0 : rg a0) (h1 : 0 ≤ a1 ∧ a1 ≤ 9) (h2 : 0 ≤ a2 ∧ a2 ≤ 9) (hp : ∀ σ2, sc9 σ σ2 → (jr σ a0 a1 a2 f → on5 (σ2 9) (jf σ a0 a2 f)) → Post (bi (jr σ a0 a1 a2 f)) σ2) : vc_X9_comesTrue σ a0 a1 a2 Post := by
  have hn := hI.F.1
  have hg := gr9 hf h5 hI.V
  have no : ¬ jr σ a0 a1 a2 f → ∀ σ2, sc9 σ σ2 → Post 0 σ2 := by
    intro q σ2 s
    have := hp σ2 s (fun c => absurd c q)
    rw [bi_f q] at this
    exact this
  have yes : jr σ a0 a1 a2 f → ∀ σ2, sc9 σ σ2 → on5 (σ2 9) (jf σ a0 a2 f) → Post 1 σ2 := by
    intro q σ2 s o
    have := hp σ2 s (fun _ => o)
    rw [bi_t q] at this
    exact this
  unfold vc_X9_comesTrue
  refine ⟨h0, fun c => no (by unfold jr; omega) σ (sc9.rf σ), fun c => ⟨by omega, fun d => no (by unfold jr; omega) σ (sc9.rf σ), fun d => x_widen hn hg hf (by omega) (fun σ2 s o => bi_eq (fun q => no ?_ σ2 s.s9) (fun q => yes ?_ σ2 s.s9 ?_))⟩, fun c => ⟨by omega, fun d => no (by unfold jr; omega) σ (sc9.rf σ), fun d => x_narrow hn hg hf (by omega) (fun σ2 s o => bi_eq (fun q => no ?_ σ2 s.s9) (fun q => yes ?_ σ2 s.s9 ?_))⟩, fun c => ⟨by omega, fun d => no (by unfold jr; omega) σ (sc9.rf σ), fun d => ⟨by omega, fun e => x_widenAll hn hg hf (fun _ σ2 s o => yes (by unfold jr; omega) σ2 s.s9 ?_), fun e => no (by unfold jr; omega) σ (sc9.rf σ)⟩⟩, fun c => ⟨by omega, fun d => no (by unfold jr; omega) σ (sc9.rf σ), fun d => ⟨by omega, fun e => x_clear (fun σ2 s o => yes (by unfold jr; omega) σ2 s.s9 ?_), fun e => no (by unfold jr; omega) σ (sc9.rf σ)⟩⟩, fun c => ⟨by omega, fun d => no (by unfold jr; omega) σ (sc9.rf σ), fun d => s_X9_isBit (by omega) (bi_ne (fun e => x_lay8 hn hg hI.V e (fun σ2 s lv hs => ?_)) (fun e => no (by unfold jr; omega) σ (sc9.rf σ)))⟩, fun c => x_lay8 hn hg hI.V (Or.inl rfl) (fun σ2 s lv hs => s_X1_has lv.1 (by omega) (bi_eq (fun q => no ?_ σ2 s.s9) (fun q => s_X6_cellsSeen lv (by omega) ?_))), fun c => x_lay8 hn hg hI.V (Or.inl rfl) (fun σ2 s lv hs => x_wide lv hs (f := f) (by rw [s 9 (by decide) (by omega)]; exact hf) ?_)⟩
  · rintro (q1 | q1 | q1 | q1 | q1 | q1)
    · exact q q1.2.2
    all_goals omega
  · exact Or.inl ⟨c, d, q⟩
  · unfold jf; rw [if_pos c]; exact o
  · rintro (q1 | q1 | q1 | q1 | q1 | q1)
    · omega
    · exact q q1.2.2
    all_goals omega
  · exact Or.inr (Or.inl ⟨c, d, q⟩)
  · unfold jf; rw [if_neg (by omega), if_pos c]; exact o
  · unfold jf; rw [if_neg (by omega), if_neg (by omega), if_pos c]; exact o
  · unfold jf; rw [if_neg (by omega), if_neg (by omega), if_neg (by omega), if_pos c]; exact o
  · have I2 := hI.scX s.sc
    have e9 := s 9 (by decide) (by omega)
    refine s_X8_isRead lv I2.W.1 I2.F.2.2.2.2.1 ⟨bi_01, ?_⟩
    have er : rd (σ2 10 3) (lv_ σ2 63 (σ2 9)) (σ2 22) (σ2 21 1).toNat = rF σ a2 f := by
      unfold lv_ rF
      rw [hs, s 4 (by decide) (by omega), s 5 (by decide) (by omega), s 3 (by decide) (by omega), s 21 (by decide) (by omega), s 22 (by decide) (by omega), e9, ltr_c hn hf]
    rw [er]
    have ej : (0 ≤ rF σ a2 f) ↔ jr σ a0 a1 a2 f := by
      refine ⟨fun q => Or.inr (Or.inr (Or.inr (Or.inl ⟨c, d, e, q⟩))), fun q => ?_⟩
      rcases q with q1 | q1 | q1 | q1 | q1 | q1
      · omega
      · omega
      · omega
      · exact q1.2.2.2
      · omega
      · omega
    rw [bi_congr ej]
    refine hp σ2 s.s9 (fun _ => ?_)
    unfold jf; rw [if_neg (by omega), if_neg (by omega), if_neg (by omega), if_neg (by omega), e9]
    exact hf
  · rw [s 3 (by decide) (by omega)] at q
    rintro (q1 | q1 | q1 | q1 | q1 | q1)
    · omega
    · omega
    · omega
    · omega
    · exact q q1.2.1
    · omega
  · have e9 := s 9 (by decide) (by omega)
    have ec : cnt (fun p => sv σ2 63 (σ2 9) p = a1) 28 = cF σ f a1 := by
      refine cnt_congr (fun k _ => ?_)
      unfold sv
      rw [hs, s 4 (by decide) (by omega), s 3 (by decide) (by omega), e9]
      have := sF_c hn hf 0 k
      unfold sF at this ⊢
      rw [this]
    rw [ec]
    rw [s 3 (by decide) (by omega)] at q
    have hc := cnt_rg (fun p : Nat => sF σ 0 f p = a1) 28
    refine ⟨⟨by unfold cF; omega, by unfold cF; omega⟩, by omega, fun w => no ?_ σ2 s.s9, fun w => yes (Or.inr (Or.inr (Or.inr (Or.inr (Or.inl ⟨c, q, by omega⟩))))) σ2 s.s9 ?_⟩
    · rintro (q1 | q1 | q1 | q1 | q1 | q1)
      · omega
      · omega
      · omega
      · omega
      · have := q1.2.2; omega
      · omega
    · unfold jf; rw [if_neg (by omega), if_neg (by omega), if_neg (by omega), if_neg (by omega), e9]
      exact hf
  · have e9 := s 9 (by decide) (by omega)
    rw [wF_c (σ := σ) (s 3 (by decide) (by omega)) (s 4 (by decide) (by omega))]
    have hc := lst_rg (fun p : Nat => 0 ≤ sF σ 0 f p) 28
    refine ⟨⟨by unfold wF; omega, by unfold wF; omega⟩, by omega, fun w => no ?_ σ2 s.s9, fun w => yes (Or.inr (Or.inr (Or.inr (Or.inr (Or.inr ⟨c, by omega⟩))))) σ2 s.s9 ?_⟩
    · rintro (q1 | q1 | q1 | q1 | q1 | q1)
      · omega
      · omega
      · omega
      · omega
      · omega
      · have := q1.2; omega
    · unfold jf; rw [if_neg (by omega), if_neg (by omega), if_neg (by omega), if_neg (by omega), e9]
      exact hf
theorem s_X10_tryThing {σ : GS} {a0 a1 a2 : Int} {f : Nat → Int} {Post : Int → GS → Prop} (hI : Inv σ) (hf : on5 (gm σ 1) f) (h0 : rg a0) (h1 : 0 ≤ a1 ∧ a1 ≤ 9) (h2 : 0 ≤ a2 ∧ a2 ≤ 9) (hp : ∀ σ2, scM σ σ2 → (jr σ a0 a1 a2 f → on5 (gm σ2 1) (jf σ a0 a2 f)) → Post (bi (jr σ a0 a1 a2 f)) σ2) : vc_X10_tryThing σ a0 a1 a2 Post := by
  have hF := hI.F
  have hg := hI.G.2.1
  have no : ¬ jr σ a0 a1 a2 f → ∀ σ2, scM σ σ2 → Post 0 σ2 := by
    intro q σ2 s
    have := hp σ2 s (fun c => absurd c q)
    rw [bi_f q] at this
    exact this
  have yes : jr σ a0 a1 a2 f → ∀ σ2, scM σ σ2 → on5 (gm σ2 1) (jf σ a0 a2 f) → Post 1 σ2 := by
    intro q σ2 s o
    have := hp σ2 s (fun _ => o)
    rw [bi_t q] at this
    exact this
  by_cases k1 : a0 = 1 ∧ a1 = 0
  · obtain ⟨rfl, rfl⟩ := k1
    refine m_try1 hF hg hf (by omega) (fun σ2 s o => ?_)
    have ej : jc1 σ a2 f ↔ jr σ 1 0 a2 f := ⟨fun q => Or.inl ⟨rfl, rfl, q⟩, fun q => by
      rcases q with q1 | q1 | q1 | q1 | q1 | q1
      · exact q1.2.2
      all_goals omega⟩
    rw [bi_congr ej]
    exact hp σ2 s.sc (fun _ => by unfold jf; rw [if_pos rfl]; exact o)
  by_cases k2 : a0 = 2 ∧ a1 = 0
  · obtain ⟨rfl, rfl⟩ := k2
    refine m_try2 hF hg hf (by omega) (fun σ2 s o => ?_)
    have ej : jc2 σ a2 f ↔ jr σ 2 0 a2 f := ⟨fun q => Or.inr (Or.inl ⟨rfl, rfl, q⟩), fun q => by
      rcases q with q1 | q1 | q1 | q1 | q1 | q1
      · omega
      · exact q1.2.2
      all_goals omega⟩
    rw [bi_congr ej]
    exact hp σ2 s.sc (fun _ => by unfold jf; rw [if_neg (by omega), if_pos rfl]; exact o)
  unfold vc_X10_tryThing
  have z := scM.rf hg
  refine ⟨h0, fun c => no (by unfold jr; omega) σ z, fun c => ⟨by omega, fun d => ⟨fun _ => no (by unfold jr; omega) σ z, fun c => absurd rfl c⟩, fun d => absurd ⟨c, d⟩ k1⟩, fun c => ⟨by omega, fun d => ⟨fun _ => no (by unfold jr; omega) σ z, fun c => absurd rfl c⟩, fun d => absurd ⟨c, d⟩ k2⟩, fun c => m_fling hF hg hf (fun _ σ2 s o => ⟨by omega, fun d => no (by unfold jr; omega) σ2 s.sc, fun d => ⟨by omega, fun e => no (by unfold jr; omega) σ2 s.sc, fun e => yes (by unfold jr; omega) σ2 s.sc ?_⟩⟩), fun c => m_snap hg (fun σ2 s o => ⟨by omega, fun d => no (by unfold jr; omega) σ2 s.sc, fun d => ⟨by omega, fun e => no (by unfold jr; omega) σ2 s.sc, fun e => yes (by unfold jr; omega) σ2 s.sc ?_⟩⟩), fun c => ⟨by omega, fun d => no (by unfold jr; omega) σ z, fun d => ⟨by omega, s_X10_in (by omega) (by decide) (by decide) (bi_eq (fun e => no (by unfold jr; omega) σ z) (fun e => s_X10_readsOn (L := 1) hF.2.1 hg hF.2.2.2.2.2.1 hI.W.2.1 (by decide) (by decide) (by omega) ?_))⟩⟩, fun c => s_X10_isBlade hF.2.1 (by omega) (bi_eq (fun q => no ?_ σ z) (fun q => s_X10_cellsSeen (L := 1) hF.2.1 hg (by decide) (Or.inl rfl) (by omega) ?_)), fun c => m_wide hF hg hf ?_⟩
  · unfold jf; rw [if_neg (by omega), if_neg (by omega), if_pos c]; exact o
  · unfold jf; rw [if_neg (by omega), if_neg (by omega), if_neg (by omega), if_pos c]; exact o
  · have hn := hF.1.1
    rw [← rd_XM hI (gp := f) (fun g hg => (hf g (by omega)).symm) (show a2 = 0 ∨ a2 = 1 by omega)]
    have hr := rd_rg a2 (ltr a2 63 (σ 4) f (σ 5) (σ 3 2).toNat) (σ 22) (σ 21 1).toNat
    refine ⟨⟨by omega, by omega⟩, fun w => no ?_ σ z, fun w => yes (Or.inr (Or.inr (Or.inr (Or.inl ⟨c, d, by omega, by unfold rF; omega⟩)))) σ z ?_⟩
    · rintro (q1 | q1 | q1 | q1 | q1 | q1)
      · omega
      · omega
      · omega
      · have := q1.2.2.2
        unfold rF at this
        omega
      · omega
      · omega
    · unfold jf; rw [if_neg (by omega), if_neg (by omega), if_neg (by omega), if_neg (by omega)]
      exact hf
  · rw [hF.2.2.1] at q
    rintro (q1 | q1 | q1 | q1 | q1 | q1)
    · omega
    · omega
    · omega
    · omega
    · exact q q1.2.1
    · omega
  · have ec : cnt (fun p => sM σ 1 63 0 p = a1) 28 = cF σ f a1 := cnt_congr (fun k _ => by rw [sM_F hF hf])
    rw [ec]
    rw [hF.2.2.1] at q
    have hc := cnt_rg (fun p : Nat => sF σ 0 f p = a1) 28
    refine ⟨⟨by unfold cF; omega, by unfold cF; omega⟩, by omega, fun w => no ?_ σ z, fun w => yes (Or.inr (Or.inr (Or.inr (Or.inr (Or.inl ⟨c, q, by omega⟩))))) σ z ?_⟩
    · rintro (q1 | q1 | q1 | q1 | q1 | q1)
      · omega
      · omega
      · omega
      · omega
      · have := q1.2.2; omega
      · omega
    · unfold jf; rw [if_neg (by omega), if_neg (by omega), if_neg (by omega), if_neg (by omega)]
      exact hf
  · have hc := lst_rg (fun p : Nat => 0 ≤ sF σ 0 f p) 28
    refine ⟨⟨by unfold wF; omega, by unfold wF; omega⟩, by omega, fun w => no ?_ σ z, fun w => yes (Or.inr (Or.inr (Or.inr (Or.inr (Or.inr ⟨c, by omega⟩))))) σ z ?_⟩
    · rintro (q1 | q1 | q1 | q1 | q1 | q1)
      · omega
      · omega
      · omega
      · omega
      · omega
      · have := q1.2; omega
    · unfold jf; rw [if_neg (by omega), if_neg (by omega), if_neg (by omega), if_neg (by omega)]
      exact hf
