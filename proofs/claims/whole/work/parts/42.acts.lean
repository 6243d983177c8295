/-! ===== acts: spread, fold, fling, snap, undo, keep, again ===== -/
def rem (σ σ' : GS) : Prop := (∀ c, c ≠ 23 → ¬ (25 ≤ c ∧ c ≤ 38) → σ' c = σ c) ∧ ((σ 23 1 < 14 ∧ σ' 23 1 = σ 23 1 + 1 ∧ ∀ i : Nat, (i : Int) < σ 23 1 → σ' (25 + i) = σ (25 + i)) ∨ (σ 23 1 = 14 ∧ σ' 23 1 = 14 ∧ ∀ i : Nat, i < 13 → ∀ g : Nat, g < 5 → σ' (25 + i) g = σ (25 + i + 1) g)) ∧ ∀ i : Nat, (i : Int) + 1 = σ' 23 1 → ∀ g : Nat, g < 5 → σ' (25 + i) g = σ 7 g
theorem lay_act : ∀ i, i < 14 → lay (25 + i) = cA 5 ∧ 25 + i < 65
  | 0, _ => ⟨rfl, by omega⟩
  | 1, _ => ⟨rfl, by omega⟩
  | 2, _ => ⟨rfl, by omega⟩
  | 3, _ => ⟨rfl, by omega⟩
  | 4, _ => ⟨rfl, by omega⟩
  | 5, _ => ⟨rfl, by omega⟩
  | 6, _ => ⟨rfl, by omega⟩
  | 7, _ => ⟨rfl, by omega⟩
  | 8, _ => ⟨rfl, by omega⟩
  | 9, _ => ⟨rfl, by omega⟩
  | 10, _ => ⟨rfl, by omega⟩
  | 11, _ => ⟨rfl, by omega⟩
  | 12, _ => ⟨rfl, by omega⟩
  | 13, _ => ⟨rfl, by omega⟩
  | _ + 14, h => by omega
theorem lay_slot : ∀ i, i < 2 → lay (41 + i) = cA 5 ∧ 41 + i < 65
  | 0, _ => ⟨rfl, by omega⟩
  | 1, _ => ⟨rfl, by omega⟩
  | _ + 2, h => by omega
theorem cp_lt {f g : Nat → Int} {n i : Nat} (h : i < n) : cp f g n i = f i := if_pos h
theorem s_X0_forgetFirst {σ : GS} {Post : GS → Prop} (hp : ∀ σ', (∀ c, c ≠ 23 → ¬ (25 ≤ c ∧ c ≤ 38) → σ' c = σ c) → σ' 23 1 = 13 → (∀ i : Nat, i < 13 → ∀ g : Nat, g < 5 → σ' (25 + i) g = σ (25 + i + 1) g) → Post σ') : vc_X0_forgetFirst σ Post := by
  unfold vc_X0_forgetFirst
  refine ⟨fun n v σ1 => ∃ i : Nat, 1 ≤ i ∧ i ≤ 14 ∧ n = 14 - i ∧ v = i ∧ (∀ c, ¬ (25 ≤ c ∧ c ≤ 38) → σ1 c = σ c) ∧ (∀ j : Nat, j + 1 < i → ∀ g : Nat, g < 5 → σ1 (25 + j) g = σ (25 + j + 1) g) ∧ ∀ j : Nat, i ≤ j + 1 → σ1 (25 + j) = σ (25 + j), ⟨13, 1, by omega, by omega, by omega, rfl, fun _ _ => rfl, fun j hj => by omega, fun _ _ => rfl⟩, ?_⟩
  rintro n v σ1 ⟨i, h1, h2, h3, rfl, h4, h5, h6⟩
  refine ⟨by omega, fun h => ?_, fun h => ⟨by omega, by omega, 14 - (i + 1), by omega, i + 1, by omega, by omega, rfl, rfl, ?_, ?_, ?_⟩⟩
  · refine hp _ (fun c c1 c2 => ?_) ?_ (fun j hj g hg => ?_)
    · rw [up2_n _ _ _ c1]; exact h4 c c2
    · rw [up2_s, up1_s]
    · rw [up2_n _ _ _ (by omega)]; exact h5 j (by omega) g hg
  · intro c hc
    rw [upR_n _ _ (by omega)]; exact h4 c hc
  · intro j hj g hg
    rw [show ((i : Int) - 1).toNat = i - 1 by omega, Int.toNat_natCast]
    by_cases e : j + 1 = i
    · rw [show 25 + j = 25 + (i - 1) by omega, upR_s, cp_lt (by exact hg), h6 i (by omega)]
      rw [show 25 + (i - 1) + 1 = 25 + i by omega]
    · rw [upR_n _ _ (by omega)]
      exact h5 j (by omega) g hg
  · intro j hj
    rw [upR_n _ _ (by omega)]; exact h6 j (by omega)
theorem s_X0_remember {σ : GS} {Post : GS → Prop} (hA : 0 ≤ σ 23 1 ∧ σ 23 1 ≤ 14) (hp : ∀ σ', rem σ σ' → Post σ') : vc_X0_remember σ 6 Post := by
  unfold vc_X0_remember
  obtain ⟨n, hn⟩ := Int.eq_ofNat_of_zero_le hA.1
  refine ⟨Or.inl rfl, by omega, fun h => ⟨by omega, ?_⟩, fun h => s_X0_forgetFirst (fun σ1 a1 a2 a3 => ?_)⟩
  · rw [hn, Int.toNat_natCast]
    refine ⟨Or.inl rfl, lay_act n (by omega), hp _ ⟨fun c c1 c2 => ?_, Or.inl ⟨h, ?_, fun i hi => ?_⟩, fun i hi g hg => ?_⟩⟩
    · rw [up2_n _ _ _ c1, upR_n _ _ (by omega)]
    · rw [up2_s, up1_s, upR_n _ _ (by omega)]
    · rw [up2_n _ _ _ (by omega), upR_n _ _ (by omega)]
    · rw [up2_s, up1_s, upR_n _ _ (by omega)] at hi
      rw [up2_n _ _ _ (by omega), show i = n by omega, upR_s, cp_lt (by exact hg)]
  · rw [a2]
    refine ⟨by decide, Or.inl rfl, lay_act 13 (by omega), hp _ ⟨fun c c1 c2 => ?_, Or.inr ⟨by omega, ?_, fun i hi g hg => ?_⟩, fun i hi g hg => ?_⟩⟩
    · rw [up2_n _ _ _ c1, upR_n _ _ (by show c ≠ 38; omega)]; exact a1 c c1 c2
    · rw [up2_s, up1_s, upR_n _ _ (by decide), a2]; rfl
    · rw [up2_n _ _ _ (by omega), upR_n _ _ (by show 25 + i ≠ 38; omega)]; exact a3 i hi g hg
    · rw [up2_s, up1_s, upR_n _ _ (by decide), a2] at hi
      rw [up2_n _ _ _ (by omega), show i = (13 : Int).toNat by omega, upR_s, cp_lt (by exact hg), a1 (6 + 1) (by decide) (by omega)]
def act (σ σ' : GS) : Prop := fr [59] [11, 12] σ σ' ∧ σ' 51 12 = (σ 51 12 + 1) % 14 ∧ σ' 51 11 = (if 14 ≤ σ 51 11 then 14 else σ 51 11 + 1) ∧ ∀ j : Nat, σ' 59 j = if 5 * σ 51 12 ≤ j ∧ (j : Int) < 5 * σ 51 12 + 5 then σ 54 (j - 5 * (σ 51 12).toNat) else σ 59 j
theorem s_X10_keepAct {σ : GS} {Post : GS → Prop} (h11 : 0 ≤ σ 51 11 ∧ σ 51 11 ≤ 14) (h12 : 0 ≤ σ 51 12 ∧ σ 51 12 ≤ 13) (hp : ∀ σ', act σ σ' → Post σ') : vc_X10_keepAct σ Post := by
  unfold vc_X10_keepAct
  obtain ⟨x, hx⟩ := Int.eq_ofNat_of_zero_le h12.1
  refine ⟨fun n v σ1 => ∃ i : Nat, i ≤ 5 ∧ n = 5 - i ∧ v = i ∧ fr [59] [] σ σ1 ∧ ∀ j : Nat, σ1 59 j = if 5 * x ≤ j ∧ j < 5 * x + i then σ 54 (j - 5 * x) else σ 59 j, ⟨5, 0, by omega, by omega, rfl, fr.rf, fun j => by rw [if_neg (by omega)]⟩, ?_⟩
  rintro n v σ1 ⟨i, h1, h2, rfl, f, h3⟩
  have e11 := f.2 11 (by decide)
  have e12 := f.2 12 (by decide)
  have e54 := f.1 54 (by decide) (by decide)
  refine ⟨by omega, fun h => ⟨by omega, ?_⟩, fun h => ⟨by omega, by omega, 5 - (i + 1), by omega, i + 1, by omega, rfl, rfl, fr.u2 f (by decide) (by decide), fun j => ?_⟩⟩
  · have q : up2 σ1 51 12 ((σ1 51 12 + 1) % 14) 51 11 = σ 51 11 := by rw [up2_s, up1_n _ _ (by decide), e11]
    rw [q]
    have W : ∀ w : Int, w = (if 14 ≤ σ 51 11 then 14 else σ 51 11 + 1) → Post (up2 (up2 σ1 51 12 ((σ1 51 12 + 1) % 14)) 51 11 w) := by
      intro w hw
      refine hp _ ⟨fr.u5 (fr.u5 (f.mono (fun _ h => h) (by simp)) (by decide)) (by decide), ?_, ?_, fun j => ?_⟩
      · rw [up2_s, up1_n _ _ (by decide), up2_s, up1_s, e12]
      · rw [up2_s, up1_s, hw]
      · rw [up2_n _ _ _ (by decide), up2_n _ _ _ (by decide), h3 j, hx, Int.toNat_natCast]
        have e5 : i = 5 := by omega
        by_cases c : 5 * x ≤ j ∧ j < 5 * x + i
        · rw [if_pos c, if_pos (by omega)]
        · rw [if_neg c, if_neg (by omega)]
    refine ⟨by omega, fun c => W 14 (by rw [if_pos c]), fun c => W _ (by rw [if_neg c])⟩
  · rw [up2_s, e12, hx, show (5 * (x : Int) + (i : Int)).toNat = 5 * x + i by omega, Int.toNat_natCast, e54]
    by_cases c : j = 5 * x + i
    · rw [c, up1_s, if_pos (by omega), show 5 * x + i - 5 * x = i by omega]
    · rw [up1_n _ _ c, h3 j]
      by_cases d : 5 * x ≤ j ∧ j < 5 * x + i
      · rw [if_pos d, if_pos (by omega)]
      · rw [if_neg d, if_neg (by omega)]
theorem inv_act {σ σ1 σ2 σ3 σ4 : GS} (h : Inv σ) (r : rem σ σ1) (e2 : ∀ c, c ≠ 7 → σ2 c = σ1 c) (k : act σ2 σ3) (e4 : ∀ c, c ≠ 54 → σ4 c = σ3 c) (hG : iG σ4) : Inv σ4 := by
  have c4 : ∀ c, c ≠ 51 → c ∉ [7, 23, 54, 59, 25, 26, 27, 28, 29, 30, 31, 32, 33, 34, 35, 36, 37, 38] → σ4 c = σ c := by
    intro c hc hd
    simp only [List.mem_cons, List.not_mem_nil, or_false, not_or] at hd
    rw [e4 c (by omega), k.1.1 c hc (by simp; omega), e2 c (by omega), r.1 c (by omega) (by omega)]
  have c51 : ∀ j, j ∉ [11, 12] → σ4 51 j = σ 51 j := by
    intro j hj
    rw [e4 51 (by decide), k.1.2 j hj, e2 51 (by decide), r.1 51 (by decide) (by omega)]
  have f : fr [7, 23, 54, 59, 25, 26, 27, 28, 29, 30, 31, 32, 33, 34, 35, 36, 37, 38] [11, 12] σ σ4 := ⟨c4, c51⟩
  refine ⟨h.T.fr f (by decide), h.F.fr f (by decide), hG, h.W.fr f (by decide), ?_, h.S.fr f (by decide), h.P.fr f (by decide), h.E.fr f (by decide), h.V.fr f (by decide)⟩
  have hA := h.A
  have a1 := hA.1
  have a2 := hA.2.2.1
  have x51 : σ2 51 = σ 51 := by rw [e2 51 (by decide), r.1 51 (by decide) (by omega)]
  have x54 : σ2 54 = σ 54 := by rw [e2 54 (by decide), r.1 54 (by decide) (by omega)]
  have x59 : σ2 59 = σ 59 := by rw [e2 59 (by decide), r.1 59 (by decide) (by omega)]
  have y11 : σ4 51 11 = (if 14 ≤ σ 23 1 then 14 else σ 23 1 + 1) := by rw [e4 51 (by decide), k.2.2.1, x51, hA.2.1]
  have y12 : σ4 51 12 = (σ 51 12 + 1) % 14 := by rw [e4 51 (by decide), k.2.1, x51]
  have y23 : σ4 23 1 = σ1 23 1 := by rw [e4 23 (by decide), k.1.1 23 (by decide) (by decide), e2 23 (by decide)]
  have y25 : ∀ i : Nat, i < 14 → σ4 (25 + i) = σ1 (25 + i) := by
    intro i hi
    rw [e4 _ (by omega), k.1.1 _ (by omega) (by simp; omega), e2 _ (by omega)]
  have y59 : ∀ j : Nat, σ4 59 j = if 5 * σ 51 12 ≤ j ∧ (j : Int) < 5 * σ 51 12 + 5 then σ 54 (j - 5 * (σ 51 12).toNat) else σ 59 j := by
    intro j
    rw [e4 59 (by decide), k.2.2.2 j, x51, x54, x59]
  have y3 := c4 3 (by decide) (by decide)
  have y4 := c4 4 (by decide) (by decide)
  have hg := h.G
  have new : ∀ i : Nat, i < 14 → (i : Int) + 1 = σ1 23 1 → rp ((σ 51 12 + 1) % 14) (σ1 23 1) i = (σ 51 12).toNat → (∀ g : Nat, g < 5 → σ4 (25 + i) g = σ4 59 (5 * rp ((σ 51 12 + 1) % 14) (σ1 23 1) i + g)) ∧ g5 (σ4 (25 + i)) ∧ gz σ4 (σ4 (25 + i)) := by
    intro i hi h1 h2
    have row := r.2.2 i h1
    rw [y25 i hi]
    unfold gz
    rw [y3, y4]
    refine ⟨fun g hg5 => ?_, fun g hg5 => ?_, fun g hg5 hz => ?_⟩
    · rw [row g hg5, h2, y59, if_pos (by omega), show 5 * (σ 51 12).toNat + g - 5 * (σ 51 12).toNat = g by omega]
      exact (hg.2.2.1 g hg5).symm
    · rw [row g hg5]; exact hg.1 g
    · rw [row g hg5]; exact hg.2.2.2 g hg5 hz
  have old : ∀ i j : Nat, i < 14 → (j : Int) < σ 23 1 → (∀ g : Nat, g < 5 → σ1 (25 + i) g = σ (25 + j) g) → rp ((σ 51 12 + 1) % 14) (σ1 23 1) i = rp (σ 51 12) (σ 23 1) j → rp (σ 51 12) (σ 23 1) j ≠ (σ 51 12).toNat → (∀ g : Nat, g < 5 → σ4 (25 + i) g = σ4 59 (5 * rp ((σ 51 12 + 1) % 14) (σ1 23 1) i + g)) ∧ g5 (σ4 (25 + i)) ∧ gz σ4 (σ4 (25 + i)) := by
    intro i j hi hj row h2 h3
    obtain ⟨b1, b2, b3⟩ := hA.2.2.2 j hj
    rw [y25 i hi]
    unfold gz
    rw [y3, y4]
    refine ⟨fun g hg5 => ?_, fun g hg5 => ?_, fun g hg5 hz => ?_⟩
    · rw [row g hg5, h2, y59, if_neg (by omega)]
      exact b1 g hg5
    · rw [row g hg5]; exact b2 g hg5
    · rw [row g hg5]; exact b3 g hg5 hz
  unfold iA
  rw [y23, y11, y12]
  rcases r.2.1 with ⟨q1, q2, q3⟩ | ⟨q1, q2, q3⟩
  · refine ⟨by omega, by rw [if_neg (by omega), q2], by omega, fun i hi => ?_⟩
    by_cases e : (i : Int) = σ 23 1
    · exact new i (by omega) (by omega) (by rw [q2]; unfold rp; omega)
    · exact old i i (by omega) (by omega) (fun g _ => by rw [q3 i (by omega)]) (by rw [q2]; unfold rp; omega) (by unfold rp; omega)
  · refine ⟨by omega, by rw [if_pos (by omega), q2], by omega, fun i hi => ?_⟩
    by_cases e : i = 13
    · exact new i (by omega) (by omega) (by rw [q2]; unfold rp; omega)
    · exact old i (i + 1) (by omega) (by omega) (fun g hg5 => q3 i (by omega) g hg5) (by rw [q2, q1]; unfold rp; omega) (by rw [q1]; unfold rp; omega)
/-- spread -/
theorem s_X10_spread {σ : GS} {a0 : Int} {Post : Int → GS → Prop} (hn : FanM σ) (hg : GM σ) (h11 : 0 ≤ σ 51 11 ∧ σ 51 11 ≤ 14) (h12 : 0 ≤ σ 51 12 ∧ σ 51 12 ≤ 13) (h0 : rg a0) (b0 : ¬ (0 ≤ a0 ∧ a0 < σ 51 0 - 1) → Post (-1) σ) (b1 : (0 ≤ a0 ∧ a0 < σ 51 0 - 1) → ¬ csp σ 0 a0 → Post (-3) σ) (b2 : csp σ 0 a0 → ∀ σ', act σ σ' → Post (σ' 54 a0.toNat + 1) (up2 σ' 54 a0.toNat (σ' 54 a0.toNat + 1))) : vc_X10_spread σ a0 Post := by
  unfold vc_X10_spread
  refine s_X10_isGap hn h0 (bi_ne (fun p0 => s_X10_canSpread (L := 0) hn hg (by decide) h0 (bi_ne (fun p1 => s_X10_keepAct h11 h12 (fun σ' k => ⟨by have := hn.1; omega, ?_⟩)) (fun p1 => b1 p0 p1))) (fun p0 => b0 p0))
  rw [up2_s, up1_s]
  exact b2 p1 σ' k
theorem q_spread {σ : GS} {a0 : Int} {K : Int → Int → GS → Prop} (hI : Inv σ) (h0 : rg a0) (hK : ∀ z σ', rg z → Inv σ' → K z z σ') : vc_X9_spread σ a0 (fun z σ1 => vc_X10_spread σ1 a0 (fun z' σ2 => K z z' σ2)) := by
  unfold vc_X9_spread
  have hA := hI.A
  have hF := hI.F
  have hN := hF.2.2.1
  have hn := hF.1.1
  have h11 : 0 ≤ σ 51 11 ∧ σ 51 11 ≤ 14 := by rw [hA.2.1]; exact hA.1
  have eq : (0 ≤ a0 ∧ a0 < σ 3 2 - 1) → (csp σ 0 a0 ↔ cw σ 6 a0) := by
    intro hg
    have e1 := hI.gE a0.toNat (by omega)
    have e2 := hF.2.2.2.1 a0.toNat (by omega)
    unfold csp cw fre
    rw [← e1, e2, hN]
    exact ⟨fun q => ⟨⟨q.1, q.2.1, q.2.2.1⟩, q.2.2.2⟩, fun q => ⟨q.1.1, q.1.2.1, q.1.2.2, q.2⟩⟩
  refine s_X1_hasGap hF.1 h0 (bi_ne (fun p0 => s_X2_canWiden (Or.inl rfl) hF.1 hI.G.1 h0 (bi_ne (fun p1 => s_X0_remember hA.1 (fun σ1 r => ?_)) (fun p1 => ?_))) (fun p0 => ?_))
  · have e : ∀ c, c ≠ 23 → ¬ (25 ≤ c ∧ c ≤ 38) → σ1 c = σ c := r.1
    have e3 := e 3 (by decide) (by omega)
    have e4 := e 4 (by decide) (by omega)
    have e7 := e 7 (by decide) (by omega)
    have e51 := e 51 (by decide) (by omega)
    have e52 := e 52 (by decide) (by omega)
    have e54 := e 54 (by decide) (by omega)
    obtain ⟨a, rfl⟩ := Int.eq_ofNat_of_zero_le p0.1
    have pp : cw σ1 6 a := by
      have : σ1 (6 + 1) = σ (6 + 1) := e7
      unfold cw fre
      rw [e3, e4, this]
      exact p1
    refine s_X2_widen (Or.inl rfl) (by unfold FanR; rw [e3, e4]; exact hF.1) (by unfold GR; show ∀ i, 0 ≤ σ1 7 i ∧ σ1 7 i ≤ 4; rw [e7]; exact hI.G.1) h0 (fun _ => s_X2_at (Or.inl rfl) (by omega) ?_) (fun c => absurd pp c)
    rw [up2_s, Int.toNat_natCast, up1_s]
    have x : ∀ c, c ≠ 7 → up2 σ1 (6 + 1) a (σ1 (6 + 1) a + 1) c = σ1 c := fun c hc => up2_n _ _ _ hc
    have x7 : up2 σ1 (6 + 1) a (σ1 (6 + 1) a + 1) 7 = up1 (σ 7) a (σ 7 a + 1) := by rw [show (6 + 1) = 7 from rfl, up2_s, e7]
    generalize up2 σ1 (6 + 1) a (σ1 (6 + 1) a + 1) = σ2 at x x7
    have y51 : σ2 51 = σ 51 := by rw [x 51 (by decide), e51]
    have y52 : σ2 52 = σ 52 := by rw [x 52 (by decide), e52]
    have y54 : σ2 54 = σ 54 := by rw [x 54 (by decide), e54]
    refine s_X10_spread (by unfold FanM; rw [y51, y52]; exact hF.2.1) (by unfold GM; rw [y54]; exact hI.G.2.1) (by rw [y51]; exact h11) (by rw [y51]; exact hA.2.2.1) h0 (fun c => absurd p0 (by rw [y51, hN] at c; exact c)) (fun _ c => ?_) (fun _ σ3 k => ?_)
    · refine absurd ((eq p0).mpr p1) ?_
      unfold csp gm at c ⊢
      rw [y51, y52, y54] at c
      exact c
    · have z54 : σ3 54 = σ 54 := by rw [k.1.1 54 (by decide) (by decide), y54]
      have z7 : σ3 7 = up1 (σ 7) a (σ 7 a + 1) := by rw [k.1.1 7 (by decide) (by decide), x7]
      have hga := hI.G.2.2.1 a (by omega)
      rw [Int.toNat_natCast, z54, hga, show σ1 (6 + 1) = σ 7 from e7]
      have p1' := p1.2
      rw [Int.toNat_natCast] at p1'
      have p1' : σ 7 a < 4 := p1'
      have b7 := hI.G.1 a
      have b7 : 0 ≤ σ 7 a ∧ σ 7 a ≤ 4 := b7
      refine hK _ _ (by omega) (inv_act hI r x k (fun c hc => up2_n _ _ _ hc) ?_)
      unfold iG GR GM gz
      rw [up2_s, up2_n _ _ _ (by decide), up2_n _ _ _ (by decide), up2_n _ _ _ (by decide), z54, z7, k.1.1 3 (by decide) (by decide), k.1.1 4 (by decide) (by decide), x 3 (by decide), x 4 (by decide), e3, e4]
      refine ⟨up1_all (P := fun z => 0 ≤ z ∧ z ≤ 4) hI.G.1 (by omega), up1_all (P := fun z => 0 ≤ z ∧ z ≤ 4) hI.G.2.1 (by omega), fun g hg => ?_, fun g hg hz => ?_⟩
      · unfold up1
        split
        · rfl
        · exact hI.G.2.2.1 g hg
      · have : g ≠ a := by
          intro e
          subst e
          have := p1.1.2.2
          rw [Int.toNat_natCast] at this
          omega
        rw [up1_n _ _ this]
        exact hI.G.2.2.2 g hg hz
  · exact s_X10_spread hF.2.1 hI.G.2.1 h11 hA.2.2.1 h0 (fun c => absurd p0 (by rw [hN] at c; exact c)) (fun _ _ => hK _ _ (by decide) hI) (fun c => absurd ((eq p0).mp c) p1)
  · refine s_X10_spread hF.2.1 hI.G.2.1 h11 hA.2.2.1 h0 (fun _ => hK _ _ (by decide) hI) (fun c => absurd c (by rw [hN]; exact p0)) (fun c => absurd (show 0 ≤ a0 ∧ a0 < σ 3 2 - 1 from ⟨c.1, by have := c.2.1; omega⟩) p0)
/-- fold -/
theorem s_X10_fold {σ : GS} {a0 : Int} {Post : Int → GS → Prop} (hn : FanM σ) (hg : GM σ) (h11 : 0 ≤ σ 51 11 ∧ σ 51 11 ≤ 14) (h12 : 0 ≤ σ 51 12 ∧ σ 51 12 ≤ 13) (h0 : rg a0) (b0 : ¬ (0 ≤ a0 ∧ a0 < σ 51 0 - 1) → Post (-1) σ) (b1 : (0 ≤ a0 ∧ a0 < σ 51 0 - 1) → ¬ cfo σ 0 a0 → Post (-3) σ) (b2 : cfo σ 0 a0 → ∀ σ', act σ σ' → Post (σ' 54 a0.toNat - 1) (up2 σ' 54 a0.toNat (σ' 54 a0.toNat - 1))) : vc_X10_fold σ a0 Post := by
  unfold vc_X10_fold
  refine s_X10_isGap hn h0 (bi_ne (fun p0 => s_X10_canFold (L := 0) hn hg (by decide) h0 (bi_ne (fun p1 => s_X10_keepAct h11 h12 (fun σ' k => ⟨by have := hn.1; omega, ?_⟩)) (fun p1 => b1 p0 p1))) (fun p0 => b0 p0))
  rw [up2_s, up1_s]
  exact b2 p1 σ' k
theorem q_fold {σ : GS} {a0 : Int} {K : Int → Int → GS → Prop} (hI : Inv σ) (h0 : rg a0) (hK : ∀ z σ', rg z → Inv σ' → K z z σ') : vc_X9_fold σ a0 (fun z σ1 => vc_X10_fold σ1 a0 (fun z' σ2 => K z z' σ2)) := by
  unfold vc_X9_fold
  have hA := hI.A
  have hF := hI.F
  have hN := hF.2.2.1
  have hn := hF.1.1
  have h11 : 0 ≤ σ 51 11 ∧ σ 51 11 ≤ 14 := by rw [hA.2.1]; exact hA.1
  have eq : (0 ≤ a0 ∧ a0 < σ 3 2 - 1) → (cfo σ 0 a0 ↔ cnw σ 6 a0) := by
    intro hg
    have e1 := hI.gE a0.toNat (by omega)
    have e2 := hF.2.2.2.1 a0.toNat (by omega)
    unfold cfo cnw fre
    rw [← e1, e2, hN]
    exact ⟨fun q => ⟨⟨q.1, q.2.1, q.2.2.1⟩, q.2.2.2⟩, fun q => ⟨q.1.1, q.1.2.1, q.1.2.2, q.2⟩⟩
  refine s_X1_hasGap hF.1 h0 (bi_ne (fun p0 => s_X2_canNarrow (Or.inl rfl) hF.1 hI.G.1 h0 (bi_ne (fun p1 => s_X0_remember hA.1 (fun σ1 r => ?_)) (fun p1 => ?_))) (fun p0 => ?_))
  · have e : ∀ c, c ≠ 23 → ¬ (25 ≤ c ∧ c ≤ 38) → σ1 c = σ c := r.1
    have e3 := e 3 (by decide) (by omega)
    have e4 := e 4 (by decide) (by omega)
    have e7 := e 7 (by decide) (by omega)
    have e51 := e 51 (by decide) (by omega)
    have e52 := e 52 (by decide) (by omega)
    have e54 := e 54 (by decide) (by omega)
    obtain ⟨a, rfl⟩ := Int.eq_ofNat_of_zero_le p0.1
    have pp : cnw σ1 6 a := by
      have : σ1 (6 + 1) = σ (6 + 1) := e7
      unfold cnw fre
      rw [e3, e4, this]
      exact p1
    refine s_X2_narrow (Or.inl rfl) (by unfold FanR; rw [e3, e4]; exact hF.1) (by unfold GR; show ∀ i, 0 ≤ σ1 7 i ∧ σ1 7 i ≤ 4; rw [e7]; exact hI.G.1) h0 (fun _ => s_X2_at (Or.inl rfl) (by omega) ?_) (fun c => absurd pp c)
    rw [up2_s, Int.toNat_natCast, up1_s]
    have x : ∀ c, c ≠ 7 → up2 σ1 (6 + 1) a (σ1 (6 + 1) a - 1) c = σ1 c := fun c hc => up2_n _ _ _ hc
    have x7 : up2 σ1 (6 + 1) a (σ1 (6 + 1) a - 1) 7 = up1 (σ 7) a (σ 7 a - 1) := by rw [show (6 + 1) = 7 from rfl, up2_s, e7]
    generalize up2 σ1 (6 + 1) a (σ1 (6 + 1) a - 1) = σ2 at x x7
    have y51 : σ2 51 = σ 51 := by rw [x 51 (by decide), e51]
    have y52 : σ2 52 = σ 52 := by rw [x 52 (by decide), e52]
    have y54 : σ2 54 = σ 54 := by rw [x 54 (by decide), e54]
    refine s_X10_fold (by unfold FanM; rw [y51, y52]; exact hF.2.1) (by unfold GM; rw [y54]; exact hI.G.2.1) (by rw [y51]; exact h11) (by rw [y51]; exact hA.2.2.1) h0 (fun c => absurd p0 (by rw [y51, hN] at c; exact c)) (fun _ c => ?_) (fun _ σ3 k => ?_)
    · refine absurd ((eq p0).mpr p1) ?_
      unfold cfo gm at c ⊢
      rw [y51, y52, y54] at c
      exact c
    · have z54 : σ3 54 = σ 54 := by rw [k.1.1 54 (by decide) (by decide), y54]
      have z7 : σ3 7 = up1 (σ 7) a (σ 7 a - 1) := by rw [k.1.1 7 (by decide) (by decide), x7]
      have hga := hI.G.2.2.1 a (by omega)
      rw [Int.toNat_natCast, z54, hga, show σ1 (6 + 1) = σ 7 from e7]
      have p1' := p1.2
      rw [Int.toNat_natCast] at p1'
      have p1' : 0 < σ 7 a := p1'
      have b7 := hI.G.1 a
      have b7 : 0 ≤ σ 7 a ∧ σ 7 a ≤ 4 := b7
      refine hK _ _ (by omega) (inv_act hI r x k (fun c hc => up2_n _ _ _ hc) ?_)
      unfold iG GR GM gz
      rw [up2_s, up2_n _ _ _ (by decide), up2_n _ _ _ (by decide), up2_n _ _ _ (by decide), z54, z7, k.1.1 3 (by decide) (by decide), k.1.1 4 (by decide) (by decide), x 3 (by decide), x 4 (by decide), e3, e4]
      refine ⟨up1_all (P := fun z => 0 ≤ z ∧ z ≤ 4) hI.G.1 (by omega), up1_all (P := fun z => 0 ≤ z ∧ z ≤ 4) hI.G.2.1 (by omega), fun g hg => ?_, fun g hg hz => ?_⟩
      · unfold up1
        split
        · rfl
        · exact hI.G.2.2.1 g hg
      · have : g ≠ a := by
          intro e
          subst e
          have := p1.1.2.2
          rw [Int.toNat_natCast] at this
          omega
        rw [up1_n _ _ this]
        exact hI.G.2.2.2 g hg hz
  · exact s_X10_fold hF.2.1 hI.G.2.1 h11 hA.2.2.1 h0 (fun c => absurd p0 (by rw [hN] at c; exact c)) (fun _ _ => hK _ _ (by decide) hI) (fun c => absurd ((eq p0).mp c) p1)
  · refine s_X10_fold hF.2.1 hI.G.2.1 h11 hA.2.2.1 h0 (fun _ => hK _ _ (by decide) hI) (fun c => absurd c (by rw [hN]; exact p0)) (fun c => absurd (show 0 ≤ a0 ∧ a0 < σ 3 2 - 1 from ⟨c.1, by have := c.2.1; omega⟩) p0)
