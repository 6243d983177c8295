/-! ===== rests ===== -/
theorem LV_48 {σ : GS} {set : Int} {gp : Nat → Int} {j : Nat} {v : Int} (h : LV σ set gp) : LV (up2 σ 48 j v) set gp := by
  have e : ∀ c, c ≠ 48 → up2 σ 48 j v c = σ c := fun c hc => up2_n _ _ _ hc
  have hn := h.1.1
  unfold LV FanR Laid
  rw [e 3 (by decide), e 4 (by decide), e 10 (by decide), e 19 (by decide)]
  refine ⟨h.1, h.2.1, h.2.2.1, h.2.2.2.1, h.2.2.2.2.1, fun b hb p hp => ?_⟩
  rw [e (12 + b) (by omega)]
  exact h.2.2.2.2.2 b hb p hp
theorem cF_c {σ σ' : GS} (h3 : σ' 3 = σ 3) (h4 : σ' 4 = σ 4) (f : Nat → Int) (b : Int) : cF σ' f b = cF σ f b := by unfold cF sF; rw [h3, h4]
theorem x_cells {σ : GS} {f : Nat → Int} {b : Int} {Post : Int → Prop} (h : LV σ 63 (σ 9)) (hs : σ 10 3 = 0) (hf : on5 (σ 9) f) (hb : 0 ≤ b ∧ b ≤ 2147483647) (hp : Post (cF σ f b)) : vc_X6_cellsSeen σ b Post := by
  refine s_X6_cellsSeen h hb ?_
  have e : cnt (fun p => sv σ 63 (σ 9) p = b) 28 = cF σ f b := cnt_congr (fun k _ => by
    unfold sv
    rw [hs]
    have := sF_c h.1 hf 0 k
    unfold sF at this ⊢
    rw [this])
  rw [e]
  exact hp
theorem m_cells {σ : GS} {f : Nat → Int} {b : Int} {Post : Int → Prop} (hF : iF σ) (hg : GM σ) (hf : on5 (gm σ 1) f) (hb : rg b) (hp : Post (cF σ f b)) : vc_X10_cellsSeen σ 1 b 0 Post := by
  refine s_X10_cellsSeen (L := 1) hF.2.1 hg (by decide) (Or.inl rfl) hb ?_
  have e : cnt (fun p => sM σ 1 63 0 p = b) 28 = cF σ f b := cnt_congr (fun k _ => by rw [sM_F hF hf])
  rw [e]
  exact hp
theorem cF_rg (σ : GS) (f : Nat → Int) (b : Int) : 0 ≤ cF σ f b ∧ cF σ f b ≤ 28 := by
  have := cnt_rg (fun p : Nat => sF σ 0 f p = b) 28
  unfold cF
  omega
def tw (σ : GS) (x b : Int) (f : Nat → Int) : Nat → Int := if b = 1 then jw1 σ x f else f
def tp (σ : GS) (x y b c : Int) (f : Nat → Int) : Nat → Int := tw σ y c (tw σ x b f)
def gn (σ : GS) (x y b c : Int) (f : Nat → Int) : Int := 2 * cF σ (tp σ x y b c f) x - cF σ (tp σ x y b c f) (y + 1) - b
theorem tw_c {σ σ' : GS} (h3 : σ' 3 = σ 3) (h4 : σ' 4 = σ 4) (x b : Int) (f : Nat → Int) : tw σ' x b f = tw σ x b f := by unfold tw; rw [jw1_c h3 h4]
theorem gn_c {σ σ' : GS} (h3 : σ' 3 = σ 3) (h4 : σ' 4 = σ 4) (x y b c : Int) (f : Nat → Int) : gn σ' x y b c f = gn σ x y b c f := by
  unfold gn tp
  rw [tw_c h3 h4, tw_c h3 h4, cF_c h3 h4, cF_c h3 h4]
theorem tw_5 {σ : GS} {x b : Int} {f : Nat → Int} (h : g5 f) : g5 (tw σ x b f) := by
  unfold tw
  split
  · exact jw1_5 h
  · exact h
theorem tp_comm {σ : GS} {x y b c : Int} {f : Nat → Int} (hxy : x ≠ y) (hx : 0 ≤ x) (hy : 0 ≤ y) : tp σ x y b c f = tp σ y x c b f := by
  unfold tp tw
  by_cases hb : b = 1
  · by_cases hc : c = 1
    · rw [if_pos hb, if_pos hc, if_pos hc, if_pos hb]
      obtain ⟨X, rfl⟩ := Int.eq_ofNat_of_zero_le hx
      obtain ⟨Y, rfl⟩ := Int.eq_ofNat_of_zero_le hy
      have e1 : jw1 σ X f Y = f Y := by unfold jw1; rw [if_neg (fun q => hxy q.1.symm)]
      have e2 : jw1 σ Y f X = f X := by unfold jw1; rw [if_neg (fun q => hxy q.1)]
      have c1 : jc1 σ Y (jw1 σ X f) ↔ jc1 σ Y f := by unfold jc1; rw [Int.toNat_natCast, e1]
      have c2 : jc1 σ X (jw1 σ Y f) ↔ jc1 σ X f := by unfold jc1; rw [Int.toNat_natCast, e2]
      funext g
      show (if (g : Int) = Y ∧ jc1 σ Y (jw1 σ X f) then jw1 σ X f g + 1 else jw1 σ X f g) = (if (g : Int) = X ∧ jc1 σ X (jw1 σ Y f) then jw1 σ Y f g + 1 else jw1 σ Y f g)
      by_cases g1 : (g : Int) = X
      · have g2 : ¬ (g : Int) = Y := fun q => hxy (g1.symm.trans q)
        have g3 : g = X := by omega
        subst g3
        rw [if_neg (fun q => g2 q.1), e2]
        by_cases k : jc1 σ g f
        · rw [if_pos ⟨rfl, c2.mpr k⟩]; unfold jw1; rw [if_pos ⟨rfl, k⟩]
        · rw [if_neg (fun q => k (c2.mp q.2))]; unfold jw1; rw [if_neg (fun q => k q.2)]
      · by_cases g2 : (g : Int) = Y
        · have g3 : g = Y := by omega
          subst g3
          by_cases k : jc1 σ g f
          · rw [if_pos ⟨rfl, c1.mpr k⟩, if_neg (fun q => g1 q.1), e1]; unfold jw1; rw [if_pos ⟨rfl, k⟩]
          · rw [if_neg (fun q => k (c1.mp q.2)), if_neg (fun q => g1 q.1), e1]; unfold jw1; rw [if_neg (fun q => k q.2)]
        · rw [if_neg (fun q => g2 q.1), if_neg (fun q => g1 q.1)]
          unfold jw1
          rw [if_neg (fun q => g1 q.1), if_neg (fun q => g2 q.1)]
    · rw [if_pos hb, if_neg hc, if_neg hc, if_pos hb]
  · by_cases hc : c = 1
    · rw [if_neg hb, if_pos hc, if_neg hb]
    · rw [if_neg hb, if_neg hc, if_neg hb]
/-- the world after one pair is weighed -/
def wpr (σ : GS) (a0 a1 : Int) (p : Nat) (σ' : GS) : Prop := (∀ c, c ≠ 9 → c ≠ 10 → ¬ (13 ≤ c ∧ c ≤ 19) → c ≠ 48 → c ≠ 49 → σ' c = σ c) ∧ (∀ i : Nat, 5 ≤ i → σ' 9 i = σ 9 i) ∧ σ' 48 = up1 (σ 48) p (gn σ a0 a1 (p / 2 : Nat) (p % 2 : Nat) (σ 7)) ∧ σ' 49 = up1 (σ 49) p (gn σ a1 a0 (p % 2 : Nat) (p / 2 : Nat) (σ 7))
theorem x_tail {σ σ2 : GS} {a0 a1 : Int} {p : Nat} {Post : GS → Prop} (hI : Inv σ) (h0 : 0 ≤ a0 ∧ a0 < 5) (h1 : 0 ≤ a1 ∧ a1 < 5) (hne : a0 ≠ a1) (hp4 : p < 4) (s : x9 σ σ2) (hf : on5 (σ2 9) (tp σ a0 a1 (p / 2 : Nat) (p % 2 : Nat) (σ 7))) (hp : ∀ σ', wpr σ a0 a1 p σ' → Post σ') :
    vc_X6_layAll σ2 8 0 (fun (σ7 : GS) => vc_X6_cellsSeen σ7 a0 (fun (z8 : Int) => vc_X6_cellsSeen σ7 (a1 + 1) (fun (z9 : Int) => (0 ≤ (p : Int) ∧ (p : Int) < 4) ∧ (vc_X6_cellsSeen (up2 σ7 48 (p : Int).toNat (((2 * z8) - z9) - ((p : Int) / 2 ^ (1 : Int).toNat))) a1 (fun (z11 : Int) => vc_X6_cellsSeen (up2 σ7 48 (p : Int).toNat (((2 * z8) - z9) - ((p : Int) / 2 ^ (1 : Int).toNat))) (a0 + 1) (fun (z12 : Int) => Post (up2 (up2 σ7 48 (p : Int).toNat (((2 * z8) - z9) - ((p : Int) / 2 ^ (1 : Int).toNat))) 49 (p : Int).toNat (((2 * z11) - z12) - ((p : Int) % 2))))))))) := by
  have I2 := hI.scX s.sc
  have h5 : g5 (tp σ a0 a1 (p / 2 : Nat) (p % 2 : Nat) (σ 7)) := tw_5 (tw_5 (fun g _ => hI.G.1 g))
  refine x_lay8 I2.F.1 (gr9 hf h5 I2.V) I2.V (Or.inl rfl) (fun σ7 v lv hs => ?_)
  have e9 : σ7 9 = σ2 9 := v 9 (by decide) (by omega)
  have e3 : σ7 3 = σ 3 := by rw [v 3 (by decide) (by omega), s.1 3 (by decide)]
  have e4 : σ7 4 = σ 4 := by rw [v 4 (by decide) (by omega), s.1 4 (by decide)]
  have hf7 : on5 (σ7 9) (tp σ a0 a1 (p / 2 : Nat) (p % 2 : Nat) (σ 7)) := by rw [e9]; exact hf
  refine x_cells lv hs hf7 (by omega) (x_cells lv hs hf7 (by omega) ⟨by omega, ?_⟩)
  have pd : (p : Int) / 2 ^ (1 : Int).toNat = ((p / 2 : Nat) : Int) := by show (p : Int) / 2 = _; omega
  have pm : (p : Int) % 2 = ((p % 2 : Nat) : Int) := by omega
  rw [pd, pm, Int.toNat_natCast, cF_c e3 e4, cF_c e3 e4]
  have lv2 : LV (up2 σ7 48 p (2 * cF σ (tp σ a0 a1 (p / 2 : Nat) (p % 2 : Nat) (σ 7)) a0 - cF σ (tp σ a0 a1 (p / 2 : Nat) (p % 2 : Nat) (σ 7)) (a1 + 1) - (p / 2 : Nat))) 63 (up2 σ7 48 p (2 * cF σ (tp σ a0 a1 (p / 2 : Nat) (p % 2 : Nat) (σ 7)) a0 - cF σ (tp σ a0 a1 (p / 2 : Nat) (p % 2 : Nat) (σ 7)) (a1 + 1) - (p / 2 : Nat)) 9) := LV_48 lv
  have x : ∀ c, c ≠ 48 → up2 σ7 48 p (2 * cF σ (tp σ a0 a1 (p / 2 : Nat) (p % 2 : Nat) (σ 7)) a0 - cF σ (tp σ a0 a1 (p / 2 : Nat) (p % 2 : Nat) (σ 7)) (a1 + 1) - (p / 2 : Nat)) c = σ7 c := fun c hc => up2_n _ _ _ hc
  have x48 : up2 σ7 48 p (2 * cF σ (tp σ a0 a1 (p / 2 : Nat) (p % 2 : Nat) (σ 7)) a0 - cF σ (tp σ a0 a1 (p / 2 : Nat) (p % 2 : Nat) (σ 7)) (a1 + 1) - (p / 2 : Nat)) 48 = up1 (σ 48) p (gn σ a0 a1 (p / 2 : Nat) (p % 2 : Nat) (σ 7)) := by rw [up2_s, v 48 (by decide) (by omega), s.1 48 (by decide)]; rfl
  generalize up2 σ7 48 p (2 * cF σ (tp σ a0 a1 (p / 2 : Nat) (p % 2 : Nat) (σ 7)) a0 - cF σ (tp σ a0 a1 (p / 2 : Nat) (p % 2 : Nat) (σ 7)) (a1 + 1) - (p / 2 : Nat)) = σ8 at lv2 x x48
  have hf8 : on5 (σ8 9) (tp σ a0 a1 (p / 2 : Nat) (p % 2 : Nat) (σ 7)) := by rw [x 9 (by decide)]; exact hf7
  have hs8 : σ8 10 3 = 0 := by rw [x 10 (by decide)]; exact hs
  refine x_cells lv2 hs8 hf8 (by omega) (x_cells lv2 hs8 hf8 (by omega) (hp _ ⟨fun c c1 c2 c3 c4 c5 => ?_, fun i hi => ?_, ?_, ?_⟩))
  · rw [up2_n _ _ _ c5, x c c4, v c c2 c3, s.1 c c1]
  · rw [up2_n _ _ _ (by decide), x 9 (by decide), e9, s.2 i hi]
  · rw [up2_n _ _ _ (by decide), x48]
  · rw [up2_s, x 49 (by decide), v 49 (by decide) (by omega), s.1 49 (by decide)]
    congr 1
    unfold gn
    rw [tp_comm (x := a1) (y := a0) hne.symm h1.1 h0.1, cF_c (σ' := σ8) (σ := σ) ((x 3 (by decide)).trans e3) ((x 4 (by decide)).trans e4), cF_c (σ' := σ8) (σ := σ) ((x 3 (by decide)).trans e3) ((x 4 (by decide)).trans e4)]
theorem s_X9_weighPair {σ : GS} {a0 a1 : Int} {p : Nat} {Post : GS → Prop} (hI : Inv σ) (h0 : 0 ≤ a0 ∧ a0 < 5) (h1 : 0 ≤ a1 ∧ a1 < 5) (hne : a0 ≠ a1) (hp4 : p < 4) (hp : ∀ σ', wpr σ a0 a1 p σ' → Post σ') : vc_X9_weighPair σ a0 a1 p Post := by
  have pd : (p : Int) / 2 ^ (1 : Int).toNat = ((p / 2 : Nat) : Int) := by show (p : Int) / 2 = _; omega
  have g50 : g5 (σ 7) := fun g _ => hI.G.1 g
  unfold vc_X9_weighPair
  refine ⟨by omega, x_copy9 (fun σ2 s2 o2 => ⟨by rw [pd]; omega, fun c => ⟨by omega, fun d => ?_, fun d => ?_⟩, fun c => ?_⟩)⟩
  · rw [pd] at c
    refine x_tail hI h0 h1 hne hp4 s2 ?_ hp
    unfold tp tw
    rw [if_neg (by omega), if_neg (by omega)]
    exact o2
  · rw [pd] at c
    have I2 := hI.scX s2.sc
    refine x_widen I2.F.1 (gr9 o2 g50 I2.V) o2 (by omega) (fun σ3 s3 o3 => x_tail hI h0 h1 hne hp4 ⟨fun c hc => (s3.1 c hc).trans (s2.1 c hc), fun i hi => (s3.2 i hi).trans (s2.2 i hi)⟩ ?_ hp)
    unfold tp tw
    rw [if_pos (show ((p % 2 : Nat) : Int) = 1 by omega), if_neg (show ¬ ((p / 2 : Nat) : Int) = 1 by omega), ← jw1_c (s2.1 3 (by decide)) (s2.1 4 (by decide))]
    exact o3
  · rw [pd] at c
    have I2 := hI.scX s2.sc
    refine x_widen I2.F.1 (gr9 o2 g50 I2.V) o2 (by omega) (fun σ3 s3 o3 => ⟨by omega, fun d => ?_, fun d => ?_⟩)
    · refine x_tail hI h0 h1 hne hp4 ⟨fun c hc => (s3.1 c hc).trans (s2.1 c hc), fun i hi => (s3.2 i hi).trans (s2.2 i hi)⟩ ?_ hp
      unfold tp tw
      rw [if_neg (show ¬ ((p % 2 : Nat) : Int) = 1 by omega), if_pos (show ((p / 2 : Nat) : Int) = 1 by omega), ← jw1_c (s2.1 3 (by decide)) (s2.1 4 (by decide))]
      exact o3
    · have I3 := I2.scX s3.sc
      refine x_widen I3.F.1 (gr9 o3 (jw1_5 g50) I3.V) o3 (by omega) (fun σ4 s4 o4 => x_tail hI h0 h1 hne hp4 ⟨fun c hc => (s4.1 c hc).trans ((s3.1 c hc).trans (s2.1 c hc)), fun i hi => (s4.2 i hi).trans ((s3.2 i hi).trans (s2.2 i hi))⟩ ?_ hp)
      unfold tp tw
      rw [if_pos (by omega), if_pos (by omega), ← jw1_c (σ' := σ2) (σ := σ) (s2.1 3 (by decide)) (s2.1 4 (by decide)) a0, ← jw1_c (σ' := σ3) (σ := σ) ((s3.1 3 (by decide)).trans (s2.1 3 (by decide))) ((s3.1 4 (by decide)).trans (s2.1 4 (by decide))) a1]
      exact o4
