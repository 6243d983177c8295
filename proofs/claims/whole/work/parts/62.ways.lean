/-! ===== all ways, folded ===== -/
def fo (V : Nat → Prop) [DecidablePred V] (st : Nat → Int × Int → Int × Int) (z : Int × Int) : Nat → Int × Int
  | 0 => z
  | m + 1 => if V m then st m (fo V st z m) else fo V st z m
theorem fo_skip {V : Nat → Prop} [DecidablePred V] {st : Nat → Int × Int → Int × Int} {z : Int × Int} {a : Nat} : ∀ n : Nat, (∀ k, a ≤ k → k < a + n → ¬ V k) → fo V st z (a + n) = fo V st z a
  | 0, _ => rfl
  | n + 1, h => by
      show (if V (a + n) then _ else fo V st z (a + n)) = _
      rw [if_neg (h (a + n) (by omega) (by omega)), fo_skip n (fun k h1 h2 => h k h1 (by omega))]
abbrev gG (σ : GS) : Nat := (σ 3 2 - 1).toNat
abbrev Vw (σ : GS) (w : Nat) : Prop := vld (σ 4) (gG σ) w
def XW (σ : GS) (side : Int) (w : Nat) (σ8 : GS) : Prop := w < 5 ^ gG σ ∧ Vw σ w ∧ sc9 σ σ8 ∧ σ8 9 = dgr (gG σ) w ∧ LV σ8 63 (σ8 9) ∧ σ8 10 3 = side
def XI (σ : GS) (side : Int) (A : Nat → Int × Int) (n : Nat) (v3 v4 v5 v6 : Int) (σ8 : GS) : Prop :=
  (v5 = 0 ∧ (v3, v4) = A (5 ^ gG σ) ∧ scX σ σ8 ∧ 0 ≤ v6 ∧ v6 ≤ 3125) ∨ (v5 = 1 ∧ ∃ w, XW σ side w σ8 ∧ (v3, v4) = A w ∧ 0 ≤ v6 ∧ v6 ≤ (w : Int) ∧ n = 5 ^ gG σ - w)
theorem gG_le {σ : GS} (hI : Inv σ) : gG σ ≤ 5 ∧ (5 ^ gG σ : Nat) ≤ 3125 ∧ 1 ≤ (5 ^ gG σ : Nat) := by
  have := hI.F.1.1
  have h : gG σ ≤ 5 := by unfold gG; omega
  have := Nat.pow_le_pow_right (n := 5) (by decide) h
  exact ⟨h, by omega, Nat.pow_pos (by decide)⟩
theorem x_next {σ σ8 : GS} {side : Int} {st : Nat → Int × Int → Int × Int} {z : Int × Int} {w n : Nat} {a b v6 : Int} (hI : Inv σ) (h : XW σ side w σ8) (hab : (a, b) = fo (Vw σ) st z (w + 1)) (h6 : 0 ≤ v6 ∧ v6 ≤ w) (hn : n = 5 ^ gG σ - w) : vc_X7_step σ8 (fun z5 σ9 => ∃ n', n' < n ∧ XI σ side (fo (Vw σ) st z) n' a b z5 (v6 + 1) σ9) := by
  obtain ⟨h1, h2, h3, h4, h5, h7⟩ := h
  have g := gG_le hI
  have f3 : σ8 3 = σ 3 := h3.1 3 (by decide) (by decide) (by omega)
  have f4 : σ8 4 = σ 4 := h3.1 4 (by decide) (by decide) (by omega)
  refine s_X7_step (G := gG σ) (w := w) h5.1 (by unfold gG; rw [f3]) h4 h1 (by rw [f4]; exact h2) h5 (fun w' σ' q1 q2 q3 q4 q5 q6 q7 q8 => ?_) (fun q σ' s => ?_)
  · rw [f4] at q3 q4
    refine ⟨5 ^ gG σ - w', by omega, Or.inr ⟨rfl, w', ⟨q2, q3, h3.tr q5, q6, q7, by rw [q8, h7]⟩, ?_, by omega, by omega, rfl⟩⟩
    rw [hab]
    have := fo_skip (V := Vw σ) (st := st) (z := z) (a := w + 1) (w' - (w + 1)) (fun k k1 k2 => q4 k (by omega) (by omega))
    rw [show w + 1 + (w' - (w + 1)) = w' by omega] at this
    exact this.symm
  · rw [f4] at q
    refine ⟨0, by omega, Or.inl ⟨rfl, ?_, (h3.tr s).sc, by omega, by omega⟩⟩
    rw [hab]
    have := fo_skip (V := Vw σ) (st := st) (z := z) (a := w + 1) (5 ^ gG σ - (w + 1)) (fun k k1 k2 => q k (by omega) (by omega))
    rw [show w + 1 + (5 ^ gG σ - (w + 1)) = 5 ^ gG σ by omega] at this
    exact this.symm
theorem dg_0 (G g : Nat) : dg G 0 g = 0 := by unfold dg; rw [Nat.zero_div]
theorem x_begin {σ : GS} {side : Int} {Post : GS → Prop} (hI : Inv σ) (hs : side = 0 ∨ side = 1) (hp : ∀ σ', XW σ side 0 σ' → Post σ') : vc_X7_begin σ side Post := by
  unfold vc_X7_begin
  have g := gG_le hI
  refine x_clear (fun σ1 s1 o1 => ?_)
  have I1 := hI.scX s1.sc
  have e9 : σ1 9 = dgr (gG σ) 0 := by
    funext i
    unfold dgr
    by_cases c : i < 5
    · rw [o1 i c, dg_0]
      split <;> rfl
    · rw [s1.2 i (by omega), hI.V.2 i (by omega), if_neg (by omega)]
  have hg : GR σ1 9 := by unfold GR; rw [e9]; exact dgr_rg _ _
  refine x_lay8 I1.F.1 hg I1.V hs (fun σ2 v lv hs2 => hp σ2 ⟨by omega, fun g _ => Or.inr (dg_0 _ _), s1.s9.tr v.s9, ?_, lv, hs2⟩)
  rw [v 9 (by decide) (by omega), e9]
/-- the reference at a way -/
def MW (σ : GS) (w : Nat) (σ9 : GS) : Prop := scM σ σ9 ∧ ∀ g : Nat, (g : Int) + 1 < σ 3 2 → dgr (gG σ) w g = gm σ9 1 g
theorem m_way {σ σ9 : GS} {w : Nat} {Post : Int → GS → Prop} (hI : Inv σ) (s : scM σ σ9) (hw : w < 5 ^ gG σ) (hp : ∀ σ', MW σ w σ' → Post (bi (Vw σ w)) σ') : vc_X10_layWay σ9 w Post := by
  have I9 := hI.scM s
  have g := gG_le hI
  have f3 : σ9 3 = σ 3 := s.1 3 (by decide) (by decide) (by decide) (by decide)
  have f4 : σ9 4 = σ 4 := s.1 4 (by decide) (by decide) (by decide) (by decide)
  have eG : gN σ9 = gG σ := by unfold gN gG; rw [I9.F.2.2.1, f3]
  have hn := hI.F.1.1
  refine s_X10_layWay I9.F.2.1 (by omega) ?_
  rw [eG]
  have eV : vld (σ9 52) (gG σ) w ↔ Vw σ w := by
    have k : ∀ g, g < gG σ → σ9 52 g = σ 4 g := fun g hg => by rw [I9.F.2.2.2.1 g (by rw [f3]; unfold gG at hg; omega), f4]
    exact ⟨fun q g hg => by rw [← k g hg]; exact q g hg, fun q g hg => by rw [k g hg]; exact q g hg⟩
  rw [bi_congr eV]
  refine hp _ ⟨s.tr ⟨fun c _ h2 _ _ => upR_n _ _ h2, fun j _ => by rw [upR_n _ _ (by decide)], fun g hg => ?_, fun i => ?_⟩, fun g hg => ?_⟩
  · rw [upR_s]; unfold d54; rw [if_neg (by omega)]
  · rw [upR_s]; unfold d54
    have := dg_lt (gN σ9) w (i - 5)
    have := I9.G.2.1 i
    split <;> omega
  · unfold gm
    rw [upR_s]
    unfold d54 dgr
    rw [eG, if_pos (by unfold gG; omega), if_pos (by unfold gG; omega)]
    rw [show 5 * 1 + g - 5 = g by omega]
theorem m_many {σ σ9 : GS} {Post : Int → Prop} (hI : Inv σ) (s : scM σ σ9) (hp : Post (((5 ^ gG σ : Nat)) : Int)) : vc_X10_waysMany σ9 Post := by
  have I9 := hI.scM s
  refine s_X10_waysMany I9.F.2.1 ?_
  have eG : gN σ9 = gG σ := by unfold gN gG; rw [I9.F.2.2.1, s.1 3 (by decide) (by decide) (by decide) (by decide)]
  rw [eG]
  exact hp
abbrev fgw (σ : GS) (w : Nat) : Int := fg (dgr (gG σ) w) (gG σ)
theorem x_fig {σ σ8 : GS} {side : Int} {w : Nat} {Post : Int → Prop} (h : XW σ side w σ8) (hp : Post (fgw σ w)) : vc_X2_figures σ8 8 Post := by
  obtain ⟨h1, h2, h3, h4, h5, h7⟩ := h
  refine s_X2_figures (Or.inr rfl) h5.1 ?_
  rw [show σ8 (8 + 1) = dgr (gG σ) w from h4, h3.1 3 (by decide) (by decide) (by omega)]
  exact hp
theorem m_fig {σ σ9 : GS} {w : Nat} {Post : Int → Prop} (hI : Inv σ) (h : MW σ w σ9) (hp : Post (fgw σ w)) : vc_X10_figuresOf σ9 1 Post := by
  have I9 := hI.scM h.1
  have hn := hI.F.1.1
  refine s_X10_figuresOf (L := 1) I9.F.2.1 (by decide) ?_
  have eG : gN σ9 = gG σ := by unfold gN gG; rw [I9.F.2.2.1, h.1.1 3 (by decide) (by decide) (by decide) (by decide)]
  rw [eG, ← fg_congr (f := dgr (gG σ) w) (g := gm σ9 1) (fun k hk => h.2 k (by unfold gG at hk; omega))]
  exact hp
theorem fgw_rg {σ : GS} (hI : Inv σ) (w : Nat) : 0 ≤ fgw σ w ∧ fgw σ w ≤ 44444 := by
  have g := gG_le hI
  have h := dgr_rg (gG σ) w
  have h0 := h 0
  have h1 := h 1
  have h2 := h 2
  have h3 := h 3
  have h4 := h 4
  unfold fgw
  generalize dgr (gG σ) w = f at h0 h1 h2 h3 h4
  have g1 := g.1
  generalize gG σ = G at g1
  rcases (show G = 0 ∨ G = 1 ∨ G = 2 ∨ G = 3 ∨ G = 4 ∨ G = 5 by omega) with rfl | rfl | rfl | rfl | rfl | rfl <;> simp only [fg] <;> omega
