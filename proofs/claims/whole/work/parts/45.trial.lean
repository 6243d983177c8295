/-! ===== the trial rows; years ===== -/
abbrev on5 (f g : Nat → Int) : Prop := ∀ i : Nat, i < 5 → f i = g i
abbrev jc1 (σ : GS) (a : Int) (f : Nat → Int) : Prop := fre σ a ∧ f a.toNat < 4
abbrev jc2 (σ : GS) (a : Int) (f : Nat → Int) : Prop := fre σ a ∧ 0 < f a.toNat
def jw1 (σ : GS) (a : Int) (f : Nat → Int) : Nat → Int := fun g => if (g : Int) = a ∧ jc1 σ a f then f g + 1 else f g
def jw2 (σ : GS) (a : Int) (f : Nat → Int) : Nat → Int := fun g => if (g : Int) = a ∧ jc2 σ a f then f g - 1 else f g
def jw3 (σ : GS) (f : Nat → Int) : Nat → Int := fun g => if jc1 σ g f then f g + 1 else f g
theorem fre_lt {σ : GS} (h : FanR σ) {a : Int} (c : fre σ a) : 0 ≤ a ∧ a < 5 := by have := h.1; have := c.1; have := c.2.1; omega
theorem jw1_5 {σ : GS} {a : Int} {f : Nat → Int} (h : g5 f) : g5 (jw1 σ a f) := by
  intro g hg
  have := h g hg
  unfold jw1
  split
  · rename_i c
    have c2 := c.2.2
    rw [← c.1, Int.toNat_natCast] at c2
    omega
  · exact this
theorem jw2_5 {σ : GS} {a : Int} {f : Nat → Int} (h : g5 f) : g5 (jw2 σ a f) := by
  intro g hg
  have := h g hg
  unfold jw2
  split
  · rename_i c
    have c2 := c.2.2
    rw [← c.1, Int.toNat_natCast] at c2
    omega
  · exact this
theorem jw3_5 {σ : GS} {f : Nat → Int} (h : g5 f) : g5 (jw3 σ f) := by
  intro g hg
  have := h g hg
  unfold jw3
  split
  · rename_i c
    have c2 := c.2
    rw [Int.toNat_natCast] at c2
    omega
  · exact this
/-- only the trial's five gaps differ -/
def x9 (σ σ' : GS) : Prop := (∀ c, c ≠ 9 → σ' c = σ c) ∧ ∀ i : Nat, 5 ≤ i → σ' 9 i = σ 9 i
theorem x9.sc {σ σ' : GS} (h : x9 σ σ') : scX σ σ' := ⟨fun c h1 _ _ _ => h.1 c h1, h.2⟩
theorem x_c1 {σ : GS} (hn : FanR σ) {f : Nat → Int} (hf : on5 (σ 9) f) (a : Int) : cw σ 8 a ↔ jc1 σ a f := by
  unfold cw jc1
  refine ⟨fun q => ⟨q.1, ?_⟩, fun q => ⟨q.1, ?_⟩⟩ <;> have := fre_lt hn q.1
  · rw [← hf a.toNat (by omega)]; exact q.2
  · show σ 9 a.toNat < 4
    rw [hf a.toNat (by omega)]; exact q.2
theorem x_c2 {σ : GS} (hn : FanR σ) {f : Nat → Int} (hf : on5 (σ 9) f) (a : Int) : cnw σ 8 a ↔ jc2 σ a f := by
  unfold cnw jc2
  refine ⟨fun q => ⟨q.1, ?_⟩, fun q => ⟨q.1, ?_⟩⟩ <;> have := fre_lt hn q.1
  · rw [← hf a.toNat (by omega)]; exact q.2
  · show 0 < σ 9 a.toNat
    rw [hf a.toNat (by omega)]; exact q.2
theorem x_widen {σ : GS} {f : Nat → Int} {a : Int} {Post : Int → GS → Prop} (hn : FanR σ) (hg : GR σ 9) (hf : on5 (σ 9) f) (ha : rg a) (hp : ∀ σ2, x9 σ σ2 → on5 (σ2 9) (jw1 σ a f) → Post (bi (jc1 σ a f)) σ2) : vc_X2_widen σ 8 a Post := by
  refine s_X2_widen (Or.inr rfl) hn hg ha (fun c => ?_) (fun c => ?_)
  · have c1 := (x_c1 hn hf a).mp c
    have hl := fre_lt hn c.1
    have := hp (up2 σ (8 + 1) a.toNat (σ (8 + 1) a.toNat + 1)) ⟨fun c hc => up2_n _ _ _ hc, fun i hi => ?_⟩ (fun g hg => ?_)
    · rw [bi_t c1] at this; exact this
    · rw [up2_s, up1_n _ _ (by omega)]
    · rw [show 8 + 1 = 9 from rfl, up2_s]
      unfold jw1 up1
      by_cases e : g = a.toNat
      · rw [if_pos e, if_pos ⟨by omega, c1⟩, ← hf g hg, e]
      · rw [if_neg e, if_neg (fun q => e (by omega))]; exact hf g hg
  · have c1 : ¬ jc1 σ a f := fun q => c ((x_c1 hn hf a).mpr q)
    have := hp σ ⟨fun _ _ => rfl, fun _ _ => rfl⟩ (fun g hg => by unfold jw1; rw [if_neg (fun q => c1 q.2)]; exact hf g hg)
    rw [bi_f c1] at this; exact this
theorem x_narrow {σ : GS} {f : Nat → Int} {a : Int} {Post : Int → GS → Prop} (hn : FanR σ) (hg : GR σ 9) (hf : on5 (σ 9) f) (ha : rg a) (hp : ∀ σ2, x9 σ σ2 → on5 (σ2 9) (jw2 σ a f) → Post (bi (jc2 σ a f)) σ2) : vc_X2_narrow σ 8 a Post := by
  refine s_X2_narrow (Or.inr rfl) hn hg ha (fun c => ?_) (fun c => ?_)
  · have c1 := (x_c2 hn hf a).mp c
    have hl := fre_lt hn c.1
    have := hp (up2 σ (8 + 1) a.toNat (σ (8 + 1) a.toNat - 1)) ⟨fun c hc => up2_n _ _ _ hc, fun i hi => ?_⟩ (fun g hg => ?_)
    · rw [bi_t c1] at this; exact this
    · rw [up2_s, up1_n _ _ (by omega)]
    · rw [show 8 + 1 = 9 from rfl, up2_s]
      unfold jw2 up1
      by_cases e : g = a.toNat
      · rw [if_pos e, if_pos ⟨by omega, c1⟩, ← hf g hg, e]
      · rw [if_neg e, if_neg (fun q => e (by omega))]; exact hf g hg
  · have c1 : ¬ jc2 σ a f := fun q => c ((x_c2 hn hf a).mpr q)
    have := hp σ ⟨fun _ _ => rfl, fun _ _ => rfl⟩ (fun g hg => by unfold jw2; rw [if_neg (fun q => c1 q.2)]; exact hf g hg)
    rw [bi_f c1] at this; exact this
theorem x_widenAll {σ : GS} {f : Nat → Int} {Post : Int → GS → Prop} (hn : FanR σ) (hg : GR σ 9) (hf : on5 (σ 9) f) (hp : ∀ z σ2, x9 σ σ2 → on5 (σ2 9) (jw3 σ f) → Post z σ2) : vc_X2_widenAll σ 8 Post := by
  refine s_X2_widenAll (Or.inr rfl) hn hg (hp _ _ ⟨fun c hc => upR_n _ _ hc, fun i hi => ?_⟩ (fun g hg => ?_))
  · rw [show 8 + 1 = 9 from rfl, upR_s]
    unfold wa
    rw [if_neg (fun c => by have := fre_lt hn c.1; omega)]
  · rw [show 8 + 1 = 9 from rfl, upR_s]
    unfold wa jw3
    by_cases c : jc1 σ g f
    · rw [if_pos c, if_pos ((x_c1 hn hf g).mpr c), ← hf g hg]
    · rw [if_neg c, if_neg (fun q => c ((x_c1 hn hf g).mp q)), ← hf g hg]
theorem x_clear {σ : GS} {Post : GS → Prop} (hp : ∀ σ2, x9 σ σ2 → on5 (σ2 9) (fun _ => 0) → Post σ2) : vc_X2_clear σ 8 Post := by
  refine s_X2_clear (Or.inr rfl) (hp _ ⟨fun c hc => upR_n _ _ hc, fun i hi => ?_⟩ (fun g hg => ?_))
  · rw [show 8 + 1 = 9 from rfl, upR_s]
    unfold z5
    rw [if_neg (by omega)]
  · rw [show 8 + 1 = 9 from rfl, upR_s]
    unfold z5
    rw [if_pos hg]
theorem scM.rf {σ : GS} (h : GM σ) : scM σ σ := ⟨fun _ _ _ _ _ => rfl, fun _ _ => rfl, fun _ _ => rfl, h⟩
theorem scM.tr {a b c : GS} (h1 : scM a b) (h2 : scM b c) : scM a c := ⟨fun k p q r s => (h2.1 k p q r s).trans (h1.1 k p q r s), fun i hi => (h2.2.1 i hi).trans (h1.2.1 i hi), fun i hi => (h2.2.2.1 i hi).trans (h1.2.2.1 i hi), h2.2.2.2⟩
/-- only the reference's trial gaps differ -/
def m5 (σ σ' : GS) : Prop := (∀ c, c ≠ 54 → σ' c = σ c) ∧ (∀ g : Nat, g < 5 → σ' 54 g = σ 54 g) ∧ GM σ'
theorem m5.sc {σ σ' : GS} (h : m5 σ σ') : scM σ σ' := ⟨fun c _ h2 _ _ => h.1 c h2, fun j _ => by rw [h.1 51 (by decide)], h.2.1, h.2.2⟩
theorem m_c1 {σ : GS} (hF : iF σ) {f : Nat → Int} (hf : on5 (gm σ 1) f) (a : Int) : csp σ 1 a ↔ jc1 σ a f := by
  have hN := hF.2.2.1
  have hn := hF.1.1
  unfold csp jc1 fre
  rw [hN]
  by_cases h : 0 ≤ a ∧ a < σ 3 2 - 1
  · rw [hf a.toNat (by omega), hF.2.2.2.1 a.toNat (by omega)]
    exact ⟨fun q => ⟨⟨q.1, q.2.1, q.2.2.1⟩, q.2.2.2⟩, fun q => ⟨q.1.1, q.1.2.1, q.1.2.2, q.2⟩⟩
  · exact ⟨fun q => absurd ⟨q.1, q.2.1⟩ h, fun q => absurd ⟨q.1.1, q.1.2.1⟩ h⟩
theorem m_c2 {σ : GS} (hF : iF σ) {f : Nat → Int} (hf : on5 (gm σ 1) f) (a : Int) : cfo σ 1 a ↔ jc2 σ a f := by
  have hN := hF.2.2.1
  have hn := hF.1.1
  unfold cfo jc2 fre
  rw [hN]
  by_cases h : 0 ≤ a ∧ a < σ 3 2 - 1
  · rw [hf a.toNat (by omega), hF.2.2.2.1 a.toNat (by omega)]
    exact ⟨fun q => ⟨⟨q.1, q.2.1, q.2.2.1⟩, q.2.2.2⟩, fun q => ⟨q.1.1, q.1.2.1, q.1.2.2, q.2⟩⟩
  · exact ⟨fun q => absurd ⟨q.1, q.2.1⟩ h, fun q => absurd ⟨q.1.1, q.1.2.1⟩ h⟩
theorem m_try1 {σ : GS} {f : Nat → Int} {a : Int} {Post : Int → GS → Prop} (hF : iF σ) (hg : GM σ) (hf : on5 (gm σ 1) f) (ha : rg a) (hp : ∀ σ2, m5 σ σ2 → on5 (gm σ2 1) (jw1 σ a f) → Post (bi (jc1 σ a f)) σ2) : vc_X10_tryThing σ 1 0 a Post := by
  unfold vc_X10_tryThing
  refine ⟨by decide, fun c => absurd c (by decide), fun _ => ⟨by decide, fun c => absurd rfl c, fun _ => s_X10_canSpread (L := 1) hF.2.1 hg (by decide) ha (bi_eq (fun c => ⟨fun _ => ?_, fun c => absurd rfl c⟩) (fun c => ⟨fun c => absurd c (by decide), fun _ => ?_⟩))⟩, fun c => absurd c (by decide), fun c => absurd c (by decide), fun c => absurd c (by decide), fun c => absurd c (by decide), fun c => absurd c (by decide), fun c => absurd c (by decide)⟩
  · have c1 : ¬ jc1 σ a f := fun q => c ((m_c1 hF hf a).mpr q)
    have := hp σ ⟨fun _ _ => rfl, fun _ _ => rfl, hg⟩ (fun g hg => by unfold jw1; rw [if_neg (fun q => c1 q.2)]; exact hf g hg)
    rw [bi_f c1] at this; exact this
  · have c1 := (m_c1 hF hf a).mp c
    have hl := fre_lt hF.1 c1.1
    obtain ⟨b, rfl⟩ := Int.eq_ofNat_of_zero_le hl.1
    rw [show (5 + (b : Int)).toNat = 5 + b by omega]
    have c4 := c.2.2.2
    rw [Int.toNat_natCast] at c4
    have c4 : σ 54 (5 + b) < 4 := c4
    have hb := hg (5 + b)
    have := hp (up2 σ 54 (5 + b) (σ 54 (5 + b) + 1)) ⟨fun c hc => up2_n _ _ _ hc, fun g hg => ?_, ?_⟩ (fun g hg => ?_)
    · rw [bi_t c1] at this
      exact ⟨by omega, this⟩
    · rw [up2_s, up1_n _ _ (by omega)]
    · intro i
      rw [up2_s]
      exact up1_all (P := fun z => 0 ≤ z ∧ z ≤ 4) hg (by omega) i
    · have e := hf g hg
      unfold gm at e ⊢
      rw [up2_s]
      unfold jw1 up1
      by_cases e2 : g = b
      · rw [if_pos (by omega), if_pos ⟨by omega, c1⟩, ← e, e2]
      · rw [if_neg (by omega), if_neg (fun q => e2 (by omega))]; exact e
theorem m_try2 {σ : GS} {f : Nat → Int} {a : Int} {Post : Int → GS → Prop} (hF : iF σ) (hg : GM σ) (hf : on5 (gm σ 1) f) (ha : rg a) (hp : ∀ σ2, m5 σ σ2 → on5 (gm σ2 1) (jw2 σ a f) → Post (bi (jc2 σ a f)) σ2) : vc_X10_tryThing σ 2 0 a Post := by
  unfold vc_X10_tryThing
  refine ⟨by decide, fun c => absurd c (by decide), fun c => absurd c (by decide), fun _ => ⟨by decide, fun c => absurd rfl c, fun _ => s_X10_canFold (L := 1) hF.2.1 hg (by decide) ha (bi_eq (fun c => ⟨fun _ => ?_, fun c => absurd rfl c⟩) (fun c => ⟨fun c => absurd c (by decide), fun _ => ?_⟩))⟩, fun c => absurd c (by decide), fun c => absurd c (by decide), fun c => absurd c (by decide), fun c => absurd c (by decide), fun c => absurd c (by decide)⟩
  · have c1 : ¬ jc2 σ a f := fun q => c ((m_c2 hF hf a).mpr q)
    have := hp σ ⟨fun _ _ => rfl, fun _ _ => rfl, hg⟩ (fun g hg => by unfold jw2; rw [if_neg (fun q => c1 q.2)]; exact hf g hg)
    rw [bi_f c1] at this; exact this
  · have c1 := (m_c2 hF hf a).mp c
    have hl := fre_lt hF.1 c1.1
    obtain ⟨b, rfl⟩ := Int.eq_ofNat_of_zero_le hl.1
    rw [show (5 + (b : Int)).toNat = 5 + b by omega]
    have c4 := c.2.2.2
    rw [Int.toNat_natCast] at c4
    have c4 : 0 < σ 54 (5 + b) := c4
    have hb := hg (5 + b)
    have := hp (up2 σ 54 (5 + b) (σ 54 (5 + b) - 1)) ⟨fun c hc => up2_n _ _ _ hc, fun g hg => ?_, ?_⟩ (fun g hg => ?_)
    · rw [bi_t c1] at this
      exact ⟨by omega, this⟩
    · rw [up2_s, up1_n _ _ (by omega)]
    · intro i
      rw [up2_s]
      exact up1_all (P := fun z => 0 ≤ z ∧ z ≤ 4) hg (by omega) i
    · have e := hf g hg
      unfold gm at e ⊢
      rw [up2_s]
      unfold jw2 up1
      by_cases e2 : g = b
      · rw [if_pos (by omega), if_pos ⟨by omega, c1⟩, ← e, e2]
      · rw [if_neg (by omega), if_neg (fun q => e2 (by omega))]; exact e
theorem m_fling {σ : GS} {f : Nat → Int} {Post : Int → GS → Prop} (hF : iF σ) (hg : GM σ) (hf : on5 (gm σ 1) f) (hp : ∀ z σ2, m5 σ σ2 → on5 (gm σ2 1) (jw3 σ f) → Post z σ2) : vc_X10_flingOn σ 1 Post := by
  refine s_X10_flingOn (L := 1) hF.2.1 hg (by decide) (hp _ _ ⟨fun c hc => upR_n _ _ hc, fun g hg => ?_, fun i => ?_⟩ (fun g hg => ?_))
  · rw [upR_s]
    unfold w54
    rw [if_neg (by omega)]
  · rw [upR_s]
    unfold w54
    have := hg i
    split
    · rename_i c
      have c4 := c.2.2.2.2
      unfold gm at c4
      rw [show 5 * 1 + ((i : Int) - 5 * ((1 : Nat) : Int)).toNat = i by omega] at c4
      omega
    · exact this
  · have e := hf g hg
    unfold gm at e ⊢
    rw [upR_s]
    unfold w54 jw3
    rw [show ((5 * 1 + g : Nat) : Int) - 5 * ((1 : Nat) : Int) = g by omega]
    by_cases c : jc1 σ g f
    · rw [if_pos c, if_pos ⟨by omega, (m_c1 hF hf g).mpr c⟩, e]
    · rw [if_neg c, if_neg (fun q => c ((m_c1 hF hf g).mp q.2)), e]
theorem m_snap {σ : GS} {Post : GS → Prop} (hg : GM σ) (hp : ∀ σ2, m5 σ σ2 → on5 (gm σ2 1) (fun _ => 0) → Post σ2) : vc_X10_snapOn σ 1 Post := by
  refine s_X10_snapOn (L := 1) (by decide) (hp _ ⟨fun c hc => upR_n _ _ hc, fun g hg => ?_, fun i => ?_⟩ (fun g hg => ?_))
  · rw [upR_s]; unfold z54; rw [if_neg (by omega)]
  · rw [upR_s]; unfold z54
    have := hg i
    split <;> omega
  · unfold gm; rw [upR_s]; unfold z54; rw [if_pos (by omega)]
theorem m_lay {σ : GS} {Post : GS → Prop} (hg : GM σ) (hp : ∀ σ2, m5 σ σ2 → on5 (gm σ2 1) (σ 54) → Post σ2) : vc_X10_layTrial σ Post := by
  refine s_X10_layTrial (hp _ ⟨fun c hc => upR_n _ _ hc, fun g hg => ?_, fun i => ?_⟩ (fun g hg => ?_))
  · rw [upR_s]; unfold t54; rw [if_neg (by omega)]
  · rw [upR_s]; unfold t54
    split
    · exact hg _
    · exact hg i
  · unfold gm; rw [upR_s]; unfold t54; rw [if_pos (by omega)]
    congr 1
    omega
theorem x_copy9 {σ : GS} {Post : GS → Prop} (hp : ∀ σ2, x9 σ σ2 → on5 (σ2 9) (σ 7) → Post σ2) : vc_X2_copyFrom σ 8 6 Post := by
  unfold vc_X2_copyFrom
  refine ⟨Or.inr rfl, Or.inl rfl, hp _ ⟨fun c hc => upR_n _ _ hc, fun i hi => ?_⟩ (fun g hg => ?_)⟩
  · rw [show 8 + 1 = 9 from rfl, upR_s]
    exact if_neg (show ¬ i < (5 : Int).toNat by have : (5 : Int).toNat = 5 := rfl; omega)
  · rw [show 8 + 1 = 9 from rfl, upR_s]
    exact if_pos hg
theorem gr9 {σ : GS} {f : Nat → Int} (hf : on5 (σ 9) f) (h5 : g5 f) (hV : iV σ) : GR σ 9 := by
  intro i
  by_cases e : i < 5
  · rw [hf i e]; exact h5 i e
  · rw [hV.2 i (by omega)]; decide
theorem x_lay8 {σ : GS} {side : Int} {Post : GS → Prop} (hn : FanR σ) (hg : GR σ 9) (hV : iV σ) (hs : side = 0 ∨ side = 1) (hp : ∀ σ', vwl σ σ' → LV σ' 63 (σ' 9) → σ' 10 3 = side → Post σ') : vc_X6_layAll σ 8 side Post := by
  have hs2 : 0 ≤ side ∧ side ≤ 1 := by omega
  refine s_X6_layAll (Or.inr rfl) hn hs2 hg hV.1 (fun σ' a1 a2 a3 a4 => ?_)
  have e9 := a1 9 (by decide) (by omega)
  have e3 := a1 3 (by decide) (by omega)
  have e4 := a1 4 (by decide) (by omega)
  refine hp σ' a1 ⟨by unfold FanR; rw [e3, e4]; exact hn, by rw [a2]; exact hs2, by rw [a3, e3], by rw [e9]; exact hg, ?_⟩ a2
  rw [e9, e3]
  exact a4
abbrev sF (σ : GS) (side : Int) (f : Nat → Int) (p : Int) : Int := seen side 63 (σ 4) f p (σ 3 2).toNat
theorem sF_c {σ : GS} (hn : FanR σ) {f f' : Nat → Int} (h : on5 f f') (side p : Int) : sF σ side f p = sF σ side f' p :=
  seen_congr (fun _ _ => rfl) (fun g hg => h g (by have := hn.1; omega))
abbrev wF (σ : GS) (f : Nat → Int) : Int := lst (fun p => 0 ≤ sF σ 0 f p) 28
theorem x_wide {σ : GS} {f : Nat → Int} {Post : Int → Prop} (h : LV σ 63 (σ 9)) (hs : σ 10 3 = 0) (hf : on5 (σ 9) f) (hp : Post (wF σ f)) : vc_X6_wide σ Post := by
  refine s_X6_wide h ?_
  have e : lst (fun p => 0 ≤ sv σ 63 (σ 9) p) 28 = wF σ f := lst_congr (fun k _ => by
    unfold sv
    rw [hs]
    have := sF_c h.1 hf 0 k
    unfold sF at this ⊢
    rw [this])
  rw [e]
  exact hp
theorem sM_F {σ : GS} (hF : iF σ) {f : Nat → Int} (hf : on5 (gm σ 1) f) (side p : Int) : sM σ 1 63 side p = sF σ side f p :=
  (seen_XM hF (fun g hg => (hf g (by have := hF.1.1; omega)).symm) side 63 p).symm
theorem m_wide {σ : GS} {f : Nat → Int} {Post : Int → Prop} (hF : iF σ) (hg : GM σ) (hf : on5 (gm σ 1) f) (hp : Post (wF σ f)) : vc_X10_wide σ 1 Post := by
  refine s_X10_wide (L := 1) hF.2.1 hg (by decide) ?_
  have e : lst (fun p => 0 ≤ sM σ 1 63 0 p) 28 = wF σ f := lst_congr (fun k _ => by rw [sM_F hF hf])
  rw [e]
  exact hp
/-- years -/
def ynx (s : Int) : Int := s * 6364136223846793005 + 1442695040888963407
def yk (s : Int) : Int := s % 18446744073709551616 / 8589934592 % 16
def yst (σ : GS) (k : Int) (f : Nat → Int) : Nat → Int := if k < 5 then jw1 σ k f else if k < 10 then jw2 σ (k - 5) f else if k < 14 then jw3 σ f else fun _ => 0
def yS (s : Int) : Nat → Int
  | 0 => s
  | n + 1 => ynx (yS s n)
def yF (σ : GS) (s : Int) (f : Nat → Int) : Nat → Nat → Int
  | 0 => f
  | n + 1 => yst σ (yk (yS s (n + 1))) (yF σ s f n)
def yT (σ : GS) (s : Int) (f : Nat → Int) : Nat → Int
  | 0 => 0
  | n + 1 => yT σ s f n + wF σ (yF σ s f (n + 1))
theorem yst_5 {σ : GS} {k : Int} {f : Nat → Int} (h : g5 f) : g5 (yst σ k f) := by
  unfold yst
  split
  · exact jw1_5 h
  · split
    · exact jw2_5 h
    · split
      · exact jw3_5 h
      · intro g _; show (0 : Int) ≤ 0 ∧ (0 : Int) ≤ 4; decide
theorem yF_5 {σ : GS} {s : Int} {f : Nat → Int} (h : g5 f) : ∀ n, g5 (yF σ s f n)
  | 0 => h
  | n + 1 => yst_5 (yF_5 h n)
theorem yT_rg {σ : GS} {s : Int} {f : Nat → Int} : ∀ n : Nat, 0 ≤ yT σ s f n ∧ yT σ s f n ≤ 28 * n
  | 0 => ⟨Int.le_refl _, by simp [yT]⟩
  | n + 1 => by
      have := yT_rg (σ := σ) (s := s) (f := f) n
      have h2 := lst_rg (fun p : Nat => 0 ≤ sF σ 0 (yF σ s f (n + 1)) p) 28
      unfold yT
      unfold wF
      omega
theorem yk_rg (s : Int) : 0 ≤ yk s ∧ yk s ≤ 15 := by unfold yk; omega
theorem jw1_c {σ σ' : GS} (h3 : σ' 3 = σ 3) (h4 : σ' 4 = σ 4) (a : Int) (f : Nat → Int) : jw1 σ' a f = jw1 σ a f := by unfold jw1 jc1 fre; rw [h3, h4]
theorem jw2_c {σ σ' : GS} (h3 : σ' 3 = σ 3) (h4 : σ' 4 = σ 4) (a : Int) (f : Nat → Int) : jw2 σ' a f = jw2 σ a f := by unfold jw2 jc2 fre; rw [h3, h4]
theorem jw3_c {σ σ' : GS} (h3 : σ' 3 = σ 3) (h4 : σ' 4 = σ 4) (f : Nat → Int) : jw3 σ' f = jw3 σ f := by unfold jw3 jc1 fre; rw [h3, h4]
theorem wF_c {σ σ' : GS} (h3 : σ' 3 = σ 3) (h4 : σ' 4 = σ 4) (f : Nat → Int) : wF σ' f = wF σ f := by unfold wF sF; rw [h3, h4]
theorem s_X9_passYear {σ : GS} {k : Int} {f : Nat → Int} {Post : GS → Prop} (hn : FanR σ) (hg : GR σ 9) (hf : on5 (σ 9) f) (hk : 0 ≤ k ∧ k ≤ 15) (hp : ∀ σ2, x9 σ σ2 → on5 (σ2 9) (yst σ k f) → Post σ2) : vc_X9_passYear σ k Post := by
  unfold vc_X9_passYear
  unfold yst at hp
  refine ⟨by omega, fun c => ⟨fun d => ⟨fun e => ?_, fun e => ?_⟩, fun d => ?_⟩, fun c => ?_⟩
  · rw [if_neg (by omega), if_neg (by omega), if_neg (by omega)] at hp
    exact x_clear hp
  · rw [if_neg (by omega), if_neg (by omega), if_pos (by omega)] at hp
    exact x_widenAll hn hg hf (fun _ σ2 => hp σ2)
  · rw [if_neg (by omega), if_pos (by omega)] at hp
    exact x_narrow hn hg hf (by omega) hp
  · rw [if_pos (by omega)] at hp
    exact x_widen hn hg hf (by omega) hp
