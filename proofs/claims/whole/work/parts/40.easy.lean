/-! ===== the calls that only look ===== -/
theorem rl {a : Int} (h : rg a) : rgL a := ⟨by omega, by omega⟩
theorem Inv.T {σ : GS} (h : Inv σ) : iT σ := h.1
theorem Inv.F {σ : GS} (h : Inv σ) : iF σ := h.2.1
theorem Inv.G {σ : GS} (h : Inv σ) : iG σ := h.2.2.1
theorem Inv.W {σ : GS} (h : Inv σ) : iW σ := h.2.2.2.1
theorem Inv.A {σ : GS} (h : Inv σ) : iA σ := h.2.2.2.2.1
theorem Inv.S {σ : GS} (h : Inv σ) : iS σ := h.2.2.2.2.2.1
theorem Inv.P {σ : GS} (h : Inv σ) : iP σ := h.2.2.2.2.2.2.1
theorem Inv.E {σ : GS} (h : Inv σ) : iE σ := h.2.2.2.2.2.2.2.1
theorem Inv.V {σ : GS} (h : Inv σ) : iV σ := h.2.2.2.2.2.2.2.2
theorem Inv.gE {σ : GS} (h : Inv σ) : ∀ g : Nat, (g : Int) + 1 < σ 3 2 → σ 7 g = gm σ 0 g := by
  intro g hg
  have h1 := h.F.1.1
  have := h.G.2.2.1 g (by omega)
  unfold gm
  rw [Nat.mul_zero, Nat.zero_add, this]
theorem q_lay {σ : GS} {side : Int} {Post : GS → Prop} (h : Inv σ) (hs : side = 0 ∨ side = 1) (hp : ∀ σ', scX σ σ' → Inv σ' → LV σ' 63 (σ' 7) → σ' 10 3 = side → Post σ') : vc_X6_layAll σ 6 side Post := by
  have hs2 : 0 ≤ side ∧ side ≤ 1 := by omega
  refine s_X6_layAll (Or.inl rfl) h.F.1 hs2 h.G.1 h.V.1 (fun σ' a1 a2 a3 a4 => ?_)
  have e7 := a1 7 (by decide) (by omega)
  have e3 := a1 3 (by decide) (by omega)
  have hI := h.scX a1.sc
  refine hp σ' a1.sc hI ⟨hI.F.1, by rw [a2]; exact hs2, by rw [a3, e3], hI.G.1, ?_⟩ a2
  rw [e7, e3]
  exact a4
theorem sv_sM {σ : GS} (h : Inv σ) {side : Int} (hs : σ 10 3 = side) (p : Int) : sv σ 63 (σ 7) p = sM σ 0 63 side p := by
  unfold sv
  rw [hs]
  exact seen_XM h.F h.gE side 63 p
theorem lv_lM {σ : GS} (h : Inv σ) {side : Int} (hs : σ 10 3 = side) (h01 : side = 0 ∨ side = 1) (p : Int) : lv_ σ 63 (σ 7) p = if sM σ 0 63 side p < 0 then -9 else lM σ 0 63 side p + 97 := by
  unfold lv_
  rw [hs]
  exact ltr_XM h.F h.gE (by omega) 63 p
theorem sM_rg {σ : GS} (h : Inv σ) (L : Nat) (set side p : Int) : sM σ L set side p = -9 ∨ (0 ≤ sM σ L set side p ∧ sM σ L set side p < 6) := by
  have h1 := h.F.2.1.1
  rcases seen_rg side set (σ 52) (gm σ L) p (σ 51 0).toNat with z | ⟨z1, z2, -⟩
  · exact Or.inl z
  · exact Or.inr ⟨z1, by unfold sM; omega⟩
theorem lM_n {σ : GS} (h : Inv σ) (L : Nat) (set side p : Int) : (sM σ L set side p < 0 ∧ lM σ L set side p = -9) ∨ (0 ≤ sM σ L set side p ∧ 0 ≤ lM σ L set side p ∧ lM σ L set side p ≤ 25) := by
  unfold lM ltr
  by_cases c : sM σ L set side p < 0
  · exact Or.inl ⟨c, if_pos c⟩
  · rw [if_neg c]
    exact Or.inr ⟨by omega, h.F.2.2.2.2.2.1 _⟩
theorem fg_rg {f : Nat → Int} (h : ∀ i, 0 ≤ f i ∧ f i ≤ 4) {n : Nat} (hn : n ≤ 5) : rg (fg f n) := by
  have h0 := h 0
  have h1 := h 1
  have h2 := h 2
  have h3 := h 3
  have h4 := h 4
  rcases (show n = 0 ∨ n = 1 ∨ n = 2 ∨ n = 3 ∨ n = 4 ∨ n = 5 by omega) with rfl | rfl | rfl | rfl | rfl | rfl <;> simp only [fg] <;> omega
theorem sm_tail {f : Nat → Int} {n : Nat} : ∀ m : Nat, (∀ g, n ≤ g → g < n + m → f g = 0) → sm f (n + m) = sm f n
  | 0, _ => rfl
  | m + 1, h => by
      rw [show n + (m + 1) = (n + m) + 1 by omega]
      show sm f (n + m) + f (n + m) = sm f n
      rw [sm_tail m (fun g h1 h2 => h g h1 (by omega)), h (n + m) (by omega) (by omega)]
      omega
theorem sm_gz {σ : GS} {f : Nat → Int} (h : gz σ f) {n : Nat} (hn : (n : Int) ≤ 5 ∧ σ 3 2 - 1 ≤ n) : sm f n = sm f 5 := by
  have := sm_tail (f := f) (n := n) (5 - n) (fun g h1 h2 => h g (by omega) (Or.inl (by omega)))
  rw [show n + (5 - n) = 5 by omega] at this
  exact this.symm
/-- look -/
def lookF (σ : GS) (a0 a1 a2 : Int) : Int := if ¬ (0 ≤ a0 ∧ a0 < 28) then -1 else if ¬ (a1 = 0 ∨ a1 = 1) then -2 else if ¬ (a2 = 0 ∨ a2 = 1) then -2 else if a2 = 1 then sM σ 0 63 a1 a0 else if sM σ 0 63 a1 a0 < 0 then -9 else lM σ 0 63 a1 a0 + 97
theorem s_X10_look {σ : GS} {a0 a1 a2 : Int} {Post : Int → Prop} (hI : Inv σ) (h0 : rg a0) (h1 : rg a1) (h2 : rg a2) (hp : Post (lookF σ a0 a1 a2)) : vc_X10_look σ a0 a1 a2 Post := by
  unfold vc_X10_look
  unfold lookF at hp
  refine ⟨h0, s_X10_in (rl h0) (by decide) (by decide) (bi_ne (fun p0 => ⟨h1, s_X10_in (rl h1) (by decide) (by decide) (bi_eq (fun p1 => ?_) (fun p1 => ⟨h2, s_X10_in (rl h2) (by decide) (by decide) (bi_ne (fun p2 => ?_) (fun p2 => ?_))⟩))⟩) (fun p0 => ?_))⟩
  · rw [if_neg (by omega), if_pos (by omega)] at hp; exact hp
  · rw [if_neg (by omega), if_neg (by omega), if_neg (by omega)] at hp
    refine s_X10_letterAt (L := 0) hI.F.2.1 hI.G.2.1 (by decide) (by decide) (by omega) (by omega) ⟨fun q => ?_, fun q => ?_⟩
    · rw [if_neg q] at hp
      have := lM_n hI 0 63 a1 a0
      refine ⟨by omega, fun c => ?_, fun c => ?_⟩
      · rw [if_neg (by omega)] at hp; exact hp
      · rw [if_pos (by omega)] at hp; exact hp
    · rw [if_pos q] at hp
      exact s_X10_bladeAt (L := 0) hI.F.2.1 hI.G.2.1 (by decide) (by decide) (by omega) (by omega) hp
  · rw [if_neg (by omega), if_neg (by omega), if_pos (by omega)] at hp; exact hp
  · rw [if_pos (by omega)] at hp; exact hp
theorem q_look {σ : GS} {a0 a1 a2 : Int} {K : Int → Int → GS → Prop} (hI : Inv σ) (h0 : rg a0) (h1 : rg a1) (h2 : rg a2) (hK : ∀ z σ', rg z → Inv σ' → K z z σ') : vc_X9_look σ a0 a1 a2 (fun z σ1 => vc_X10_look σ1 a0 a1 a2 (fun z' => K z z' σ1)) := by
  unfold vc_X9_look
  refine s_X9_isPlace h0 (bi_ne (fun p0 => s_X9_isBit h1 (bi_eq (fun p1 => ?_) (fun p1 => s_X9_isBit h2 (bi_ne (fun p2 => q_lay hI p1 (fun σ' c1 I' lv hs => ⟨h2, fun q => ?_, fun q => ?_⟩)) (fun p2 => ?_))))) (fun p0 => ?_))
  · refine s_X10_look hI h0 h1 h2 ?_
    unfold lookF; rw [if_neg (by omega), if_pos p1]; exact hK _ _ (by decide) hI
  · refine s_X6_bladeAt lv h0 (s_X10_look I' h0 h1 h2 ?_)
    unfold lookF; rw [if_neg (by omega), if_neg (by omega), if_neg (by omega), if_pos (by omega), sv_sM I' hs]
    have := sM_rg I' 0 63 a1 a0
    exact hK _ _ ⟨by omega, by omega⟩ I'
  · refine s_X6_letterAt lv h0 (s_X10_look I' h0 h1 h2 ?_)
    unfold lookF; rw [if_neg (by omega), if_neg (by omega), if_neg (by omega), if_neg (by omega), lv_lM I' hs p1]
    have := lM_n I' 0 63 a1 a0
    refine hK _ _ ?_ I'
    split <;> omega
  · refine s_X10_look hI h0 h1 h2 ?_
    unfold lookF; rw [if_neg (by omega), if_neg (by omega), if_pos p2]; exact hK _ _ (by decide) hI
  · refine s_X10_look hI h0 h1 h2 ?_
    unfold lookF; rw [if_pos p0]; exact hK _ _ (by decide) hI
/-- reads -/
theorem ra_XM {σ : GS} (h : Inv σ) {L : Nat} {gp : Nat → Int} (hg : ∀ g : Nat, (g : Int) + 1 < σ 3 2 → gp g = gm σ L g) {side : Int} (h01 : side = 0 ∨ side = 1) (set : Int) {step p : Int} : ra (ltr side set (σ 4) gp (σ 5) (σ 3 2).toNat) (σ 22) (σ 21 1).toNat step p ↔ ra (lM σ L set side) (σ 58) (σ 51 9).toNat step p := by
  unfold ra
  have hw := h.W
  rw [hw.2.2.1]
  refine ⟨fun q k hk => ?_, fun q k hk => ?_⟩
  · have q := q k hk
    rw [ltr_XM h.F hg (by omega), hw.2.2.2 k (by omega)] at q
    have := lM_n h L set side (p + k * step)
    have w := hw.2.1.2 k
    split at q <;> omega
  · have q := q k hk
    rw [ltr_XM h.F hg (by omega), hw.2.2.2 k (by omega)]
    have := lM_n h L set side (p + k * step)
    have w := hw.2.1.2 k
    rw [if_neg (by omega)]
    omega
theorem rd_XM {σ : GS} (h : Inv σ) {L : Nat} {gp : Nat → Int} (hg : ∀ g : Nat, (g : Int) + 1 < σ 3 2 → gp g = gm σ L g) {side : Int} (h01 : side = 0 ∨ side = 1) (set : Int) : rd side (ltr side set (σ 4) gp (σ 5) (σ 3 2).toNat) (σ 22) (σ 21 1).toNat = rd side (lM σ L set side) (σ 58) (σ 51 9).toNat := by
  unfold rd
  rw [h.W.2.2.1]
  split
  · rfl
  · split
    · exact fnd_congr (fun k _ => by rw [← h.W.2.2.1]; have := ra_XM h hg h01 set (step := 1) (p := k); rw [h.W.2.2.1] at this ⊢; exact this)
    · exact fndL_congr (fun k _ => by have := ra_XM h hg h01 set (step := -1) (p := k); rw [h.W.2.2.1] at this; exact this)
theorem q_reads {σ : GS} {a0 : Int} {K : Int → Int → GS → Prop} (hI : Inv σ) (h0 : rg a0) (hK : ∀ z σ', rg z → Inv σ' → K z z σ') : vc_X9_reads σ a0 (fun z σ1 => vc_X10_reads σ1 a0 (fun z' => K z z' σ1)) := by
  unfold vc_X9_reads
  refine s_X9_isBit h0 (bi_ne (fun p0 => q_lay hI p0 (fun σ' c1 I' lv hs => s_X8_firstRead lv I'.W.1 I'.F.2.2.2.2.1 ?_)) (fun p0 => ?_))
  · unfold vc_X10_reads
    refine ⟨h0, s_X10_in (rl h0) (by decide) (by decide) (bi_eq (fun c => absurd c (by omega)) (fun c => s_X10_readsOn (L := 0) I'.F.2.1 I'.G.2.1 I'.F.2.2.2.2.2.1 I'.W.2.1 (by decide) (by decide) p0 ?_))⟩
    unfold lv_
    rw [hs, rd_XM I' I'.gE p0]
    have := rd_rg a0 (lM σ' 0 63 a0) (σ' 58) (σ' 51 9).toNat
    exact hK _ _ ⟨by omega, by omega⟩ I'
  · unfold vc_X10_reads
    exact ⟨h0, s_X10_in (rl h0) (by decide) (by decide) (bi_eq (fun c => hK _ _ (by decide) hI) (fun c => absurd c (by omega)))⟩
/-- blade -/
theorem q_blade {σ : GS} {a0 a1 : Int} {K : Int → Int → GS → Prop} (hI : Inv σ) (h0 : rg a0) (h1 : rg a1) (hK : ∀ z σ', rg z → Inv σ' → K z z σ') : vc_X9_blade σ a0 a1 (fun z σ1 => vc_X10_blade σ1 a0 a1 (fun z' => K z z' σ1)) := by
  unfold vc_X9_blade
  have hN := hI.F.2.2.1
  have hn := hI.F.1.1
  have M : ∀ {σ' : GS} {Post : Int → Prop}, Inv σ' → (0 ≤ a0 ∧ a0 < σ' 3 2) → ((a1 < 0 ∨ 5 < a1 → (Post (-2))) ∧ (a1 = 0 → Post (σ' 4 a0.toNat)) ∧ (a1 = 1 → Post (sm (gm σ' 0) a0.toNat)) ∧ (a1 = 2 → Post (if σ' 4 a0.toNat = 2 then 2 else 4)) ∧ (a1 = 3 → Post (cnt (fun p => sM σ' 0 63 0 p = a0) 28)) ∧ (a1 = 4 → Post (cnt (fun p => sM σ' 0 63 1 p = a0) 28)) ∧ (a1 = 5 → Post (if a0 < σ' 3 2 - 1 then σ' 7 a0.toNat else -9))) → vc_X10_blade σ' a0 a1 Post := by
    intro σ' Post I' hb ⟨b0, b1, b2, b3, b4, b5, b6⟩
    have hN := I'.F.2.2.1
    have hn := I'.F.1.1
    have hk := I'.F.2.2.2.1 a0.toNat (by omega)
    unfold vc_X10_blade
    refine s_X10_isBlade I'.F.2.1 h0 (bi_ne (fun _ => ⟨h1, b0, fun c => ⟨by omega, by rw [hk]; exact b1 c⟩, fun c => ?_, fun c => ?_, fun c => ?_, fun c => ?_, fun c => ?_⟩) (fun c => absurd c (by omega)))
    · have := b2 c
      obtain ⟨b, rfl⟩ := Int.eq_ofNat_of_zero_le hb.1
      exact s_X10_beginOf (L := 0) (by decide) (by omega) this
    · have := b3 c
      obtain ⟨b, rfl⟩ := Int.eq_ofNat_of_zero_le hb.1
      rw [← hk] at this
      exact s_X10_wideOf I'.F.2.1 (by omega) this
    · exact s_X10_cellsSeen (L := 0) I'.F.2.1 I'.G.2.1 (by decide) (Or.inl rfl) h0 (b4 c)
    · exact s_X10_cellsSeen (L := 0) I'.F.2.1 I'.G.2.1 (by decide) (Or.inr rfl) h0 (b5 c)
    · have := b6 c
      refine s_X10_isGap I'.F.2.1 h0 (bi_eq (fun q => ?_) (fun q => ⟨by omega, ?_⟩))
      · rw [if_neg (by omega)] at this; exact this
      · rw [if_pos (by omega), ← I'.G.2.2.1 a0.toNat (by omega)] at this; exact this
  refine s_X1_has hI.F.1 h0 (bi_ne (fun p0 => ⟨h1, fun c => ?_, fun c => ?_, fun c => ?_, fun c => ?_, fun c => ?_, fun c => ?_, fun c => ?_⟩) (fun p0 => ?_))
  · refine M hI p0 ⟨fun _ => hK _ _ (by decide) hI, ?_, ?_, ?_, ?_, ?_, ?_⟩ <;> omega
  · refine s_X1_kindOf hI.F.1 h0 (M hI p0 ⟨by omega, fun _ => ?_, by omega, by omega, by omega, by omega, by omega⟩)
    rw [if_pos p0]
    have := hI.F.1.2 a0.toNat
    exact hK _ _ ⟨by omega, by omega⟩ hI
  · refine s_X2_sumAhead (Or.inl rfl) (by omega) (M hI p0 ⟨by omega, by omega, fun _ => ?_, by omega, by omega, by omega, by omega⟩)
    have := sm_rg hI.G.1 a0.toNat
    rw [show (min a0 5) = a0 by omega, ← sm_congr (fun k hk => hI.gE k (by omega))]
    exact hK (sm (σ 7) a0.toNat) _ ⟨by omega, by omega⟩ hI
  · refine s_X1_widthOf hI.F.1 p0 (M hI p0 ⟨by omega, by omega, by omega, fun _ => ?_, by omega, by omega, by omega⟩)
    exact hK _ _ (by split <;> decide) hI
  · rw [show a1 - 3 = 0 by omega]
    refine q_lay hI (Or.inl rfl) (fun σ' c1 I' lv hs => s_X6_cellsSeen lv (by omega) (M I' ?_ ⟨by omega, by omega, by omega, by omega, fun _ => ?_, by omega, by omega⟩))
    · rw [c1.1 3 (by decide) (by decide) (by omega) (by omega)]; exact p0
    · rw [cnt_congr (fun k _ => by rw [sv_sM I' hs])]
      have := cnt_rg (fun p : Nat => sM σ' 0 63 0 p = a0) 28
      exact hK _ _ ⟨by omega, by omega⟩ I'
  · rw [show a1 - 3 = 1 by omega]
    refine q_lay hI (Or.inr rfl) (fun σ' c1 I' lv hs => s_X6_cellsSeen lv (by omega) (M I' ?_ ⟨by omega, by omega, by omega, by omega, by omega, fun _ => ?_, by omega⟩))
    · rw [c1.1 3 (by decide) (by decide) (by omega) (by omega)]; exact p0
    · rw [cnt_congr (fun k _ => by rw [sv_sM I' hs])]
      have := cnt_rg (fun p : Nat => sM σ' 0 63 1 p = a0) 28
      exact hK _ _ ⟨by omega, by omega⟩ I'
  · refine s_X1_hasGap hI.F.1 h0 (bi_eq (fun q => ?_) (fun q => s_X2_at (Or.inl rfl) (by omega) ?_))
    · refine M hI p0 ⟨by omega, by omega, by omega, by omega, by omega, by omega, fun _ => ?_⟩
      rw [if_neg (by omega)]
      exact hK _ _ (by decide) hI
    · refine M hI p0 ⟨by omega, by omega, by omega, by omega, by omega, by omega, fun _ => ?_⟩
      rw [if_pos (by omega)]
      have := hI.G.1 a0.toNat
      exact hK (σ 7 a0.toNat) _ ⟨by omega, by omega⟩ hI
  · unfold vc_X10_blade
    exact s_X10_isBlade hI.F.2.1 h0 (bi_ne (fun c => absurd c (by omega)) (fun c => hK _ _ (by decide) hI))
/-- count -/
theorem q_count {σ : GS} {a0 : Int} {K : Int → Int → GS → Prop} (hI : Inv σ) (h0 : rg a0) (hK : ∀ z σ', rg z → Inv σ' → K z z σ') : vc_X9_count σ a0 (fun z σ1 => vc_X10_count σ1 a0 (fun z' => K z z' σ1)) := by
  unfold vc_X9_count
  have M : ∀ {σ' : GS} {Post : Int → Prop}, Inv σ' → ((a0 < 0 ∨ 8 < a0 → (Post (-2))) ∧ (a0 = 0 → Post (σ' 1 1)) ∧ (a0 = 1 → Post (σ' 3 2)) ∧ (a0 = 2 → Post (lst (fun p => 0 ≤ sM σ' 0 63 0 p) 28)) ∧ (a0 = 3 → Post (cnt (fun p => 0 ≤ sM σ' 0 63 0 p) 28)) ∧ (a0 = 4 → Post (fg (gm σ' 0) (gN σ'))) ∧ (a0 = 5 → Post (sm (gm σ' 0) (gN σ'))) ∧ (a0 = 6 → Post (σ' 21 1)) ∧ (a0 = 7 → Post (σ' 23 1)) ∧ (a0 = 8 → Post (σ' 44 3))) → vc_X10_count σ' a0 Post := by
    intro σ' Post I' ⟨b0, b1, b2, b3, b4, b5, b6, b7, b8, b9⟩
    unfold vc_X10_count
    rw [I'.T.2.1, I'.F.2.2.1, I'.W.2.2.1, I'.A.2.1, I'.P.2.2.1]
    exact ⟨h0, b0, b1, b2, fun c => s_X10_wide (L := 0) I'.F.2.1 I'.G.2.1 (by decide) (b3 c), fun c => s_X10_placesSeen (L := 0) I'.F.2.1 I'.G.2.1 (by decide) (by decide) (b4 c), fun c => s_X10_figuresOf (L := 0) I'.F.2.1 (by decide) (b5 c), fun c => s_X10_gapsOf (L := 0) I'.F.2.1 (by decide) (b6 c), b7, b8, b9⟩
  have hn := hI.F.1.1
  refine ⟨h0, fun c => ?_, fun c => ?_, fun c => ?_, fun c => ?_, fun c => ?_, fun c => ?_, fun c => ?_, fun c => ?_, fun c => ?_, fun c => ?_⟩
  · refine M hI ⟨fun _ => hK _ _ (by decide) hI, ?_, ?_, ?_, ?_, ?_, ?_, ?_, ?_, ?_⟩ <;> omega
  · unfold vc_X3_length
    refine M hI ⟨?_, fun _ => hK _ _ (by have := hI.T.1; omega) hI, ?_, ?_, ?_, ?_, ?_, ?_, ?_, ?_⟩ <;> omega
  · unfold vc_X1_size
    refine M hI ⟨?_, ?_, fun _ => hK _ _ (by omega) hI, ?_, ?_, ?_, ?_, ?_, ?_, ?_⟩ <;> omega
  · refine q_lay hI (Or.inl rfl) (fun σ' c1 I' lv hs => s_X6_wide lv ?_)
    refine M I' ⟨?_, ?_, ?_, fun _ => ?_, ?_, ?_, ?_, ?_, ?_, ?_⟩ <;> try omega
    rw [lst_congr (fun k _ => by rw [sv_sM I' hs])]
    have := lst_rg (fun p : Nat => 0 ≤ sM σ' 0 63 0 p) 28
    exact hK _ _ ⟨by omega, by omega⟩ I'
  · refine q_lay hI (Or.inl rfl) (fun σ' c1 I' lv hs => s_X6_placesSeen lv ?_)
    refine M I' ⟨?_, ?_, ?_, ?_, fun _ => ?_, ?_, ?_, ?_, ?_, ?_⟩ <;> try omega
    rw [cnt_congr (fun k _ => by rw [sv_sM I' hs])]
    have := cnt_rg (fun p : Nat => 0 ≤ sM σ' 0 63 0 p) 28
    exact hK _ _ ⟨by omega, by omega⟩ I'
  · refine s_X2_figures (Or.inl rfl) hI.F.1 ?_
    refine M hI ⟨?_, ?_, ?_, ?_, ?_, fun _ => ?_, ?_, ?_, ?_, ?_⟩ <;> try omega
    unfold gN
    rw [hI.F.2.2.1, ← fg_congr (fun k hk => hI.gE k (by omega))]
    refine hK _ _ (fg_rg hI.G.1 (by omega)) hI
  · refine s_X2_sum (Or.inl rfl) ?_
    refine M hI ⟨?_, ?_, ?_, ?_, ?_, ?_, fun _ => ?_, ?_, ?_, ?_⟩ <;> try omega
    unfold gN
    rw [hI.F.2.2.1, ← sm_congr (fun k hk => hI.gE k (by omega)), sm_gz (n := (σ 3 2 - 1).toNat) hI.G.2.2.2 (by omega)]
    have := sm_rg hI.G.1 5
    exact hK (sm (σ 7) 5) _ ⟨by omega, by omega⟩ hI
  · unfold vc_X8_length
    refine M hI ⟨?_, ?_, ?_, ?_, ?_, ?_, ?_, fun _ => hK _ _ (by have := hI.W.1.1; omega) hI, ?_, ?_⟩ <;> omega
  · unfold vc_X0_size
    refine M hI ⟨?_, ?_, ?_, ?_, ?_, ?_, ?_, ?_, fun _ => hK _ _ (by have := hI.A.1; omega) hI, ?_⟩ <;> omega
  · unfold vc_X5_size
    refine M hI ⟨?_, ?_, ?_, ?_, ?_, ?_, ?_, ?_, ?_, fun _ => hK _ _ (by have := hI.P.1.1; omega) hI⟩ <;> omega
