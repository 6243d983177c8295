/-! ===== what is seen: reading the laid view ===== -/
def LV (σ : GS) (set : Int) (gp : Nat → Int) : Prop := FanR σ ∧ (0 ≤ σ 10 3 ∧ σ 10 3 ≤ 1) ∧ σ 10 4 = σ 3 2 ∧ (∀ i, 0 ≤ gp i ∧ gp i ≤ 4) ∧ Laid σ set gp (σ 3 2).toNat
def rch (gp : Nat → Int) : Nat → Int
  | 0 => 0
  | n + 1 => sm gp n + 4
/-- the blade seen at a place of the laid view -/
abbrev sv (σ : GS) (set : Int) (gp : Nat → Int) (p : Int) : Int := seen (σ 10 3) set (σ 4) gp p (σ 3 2).toNat
/-- the letter -/
def ltr (side set : Int) (kd gp lt : Nat → Int) (n : Nat) (p : Int) : Int := if seen side set kd gp p n < 0 then -9 else lt (mkv side set kd gp n p).toNat
abbrev lv_ (σ : GS) (set : Int) (gp : Nat → Int) (p : Int) : Int := ltr (σ 10 3) set (σ 4) gp (σ 5) (σ 3 2).toNat p
theorem rch_rg {gp : Nat → Int} (hg : ∀ i, 0 ≤ gp i ∧ gp i ≤ 4) {n : Nat} (hn : n ≤ 6) : 0 ≤ rch gp n ∧ rch gp n ≤ 24 := by
  cases n with
  | zero => simp [rch]
  | succ n =>
    have := sm_rg hg n
    simp only [rch]
    omega
theorem seen_rch {side set : Int} {kd gp : Nat → Int} {p : Int} {n : Nat} (hg : ∀ i, 0 ≤ gp i ∧ gp i ≤ 4) (h : rch gp n ≤ p) : seen side set kd gp p n = -9 := by
  cases n with
  | zero => rfl
  | succ n => exact seen_far (fun k => (hg k).1) (m := n) h (Nat.le_refl _)
theorem s_X6_reach {σ : GS} {set : Int} {gp : Nat → Int} {Post : Int → Prop} (h : LV σ set gp) (hp : Post (rch gp (σ 3 2).toNat)) : vc_X6_reach σ Post := by
  obtain ⟨hn, hs, h4, hg, hL⟩ := h
  have h0 := hn.1
  unfold vc_X6_reach
  rw [h4]
  refine ⟨by omega, fun hz => ?_, fun hz => ?_⟩
  · obtain ⟨m, hm⟩ : ∃ m : Nat, (σ 3 2).toNat = m + 1 := ⟨(σ 3 2).toNat - 1, by omega⟩
    have e : (σ 3 2 - 1).toNat = m := by omega
    have e2 := hL.1 m (by omega)
    have e3 := sm_rg hg m
    rw [e, e2]
    refine ⟨by omega, by omega, ?_⟩
    rw [hm] at hp
    rw [show min 28 (sm gp m + 4) = sm gp m + 4 by omega]
    exact hp
  · rw [show (σ 3 2).toNat = 0 by omega] at hp
    exact hp
theorem s_X6_markAt {σ : GS} {set : Int} {gp : Nat → Int} {a : Int} {Post : Int → Prop} (h : LV σ set gp) (ha : rg a) (hp : Post (mkv (σ 10 3) set (σ 4) gp (σ 3 2).toNat a)) : vc_X6_markAt σ a Post := by
  obtain ⟨hn, hs, h4, hg, hL⟩ := h
  have h0 := hn.1
  have hr := rch_rg hg (n := (σ 3 2).toNat) (by omega)
  unfold vc_X6_markAt
  refine ⟨ha, fun hz => ?_, fun hz => ⟨fun h2 => ?_, fun h2 => ⟨by omega, by omega, ?_⟩⟩⟩
  · unfold mkv at hp
    rw [seen_neg (fun k => (hg k).1) hz] at hp
    exact hp
  · unfold mkv at hp
    rw [seen_rch hg (by omega)] at hp
    exact hp
  · rw [h4, hL.2 _ (Nat.le_refl _) a.toNat (by omega), show ((a.toNat : Nat) : Int) = a by omega]
    exact hp
theorem s_X6_letterAt {σ : GS} {set : Int} {gp : Nat → Int} {a : Int} {Post : Int → Prop} (h : LV σ set gp) (ha : rg a) (hp : Post (lv_ σ set gp a)) : vc_X6_letterAt σ a Post := by
  have h0 := h.1.1
  have hm := mkv_rg (set := set) (kd := σ 4) (gp := gp) (n := (σ 3 2).toNat) (p := a) h.2.1 (by omega)
  have hng := mkv_neg (set := set) (kd := σ 4) (gp := gp) (n := (σ 3 2).toNat) (p := a) h.2.1.1
  unfold vc_X6_letterAt
  refine s_X6_markAt h ha (s_X1_letterOf (by omega) ?_)
  unfold lv_ ltr at hp
  by_cases hz : seen (σ 10 3) set (σ 4) gp a (σ 3 2).toNat < 0
  · rw [if_pos hz] at hp
    rw [if_neg (by omega)]
    exact hp
  · rw [if_neg hz] at hp
    rw [if_pos (by omega)]
    exact hp
theorem s_X6_bladeAt {σ : GS} {set : Int} {gp : Nat → Int} {a : Int} {Post : Int → Prop} (h : LV σ set gp) (ha : rg a) (hp : Post (sv σ set gp a)) : vc_X6_bladeAt σ a Post := by
  have h0 := h.1.1
  have hs := h.2.1
  have hm := mkv_rg (set := set) (kd := σ 4) (gp := gp) (n := (σ 3 2).toNat) (p := a) h.2.1 (by omega)
  have hng := mkv_neg (set := set) (kd := σ 4) (gp := gp) (n := (σ 3 2).toNat) (p := a) h.2.1.1
  unfold vc_X6_bladeAt
  refine s_X6_markAt h ha ⟨by omega, fun hz => ⟨by omega, ?_⟩, fun hz => ?_⟩
  · have e : mkv (σ 10 3) set (σ 4) gp (σ 3 2).toNat a / 8 = sv σ set gp a := by
      rcases seen_rg (σ 10 3) set (σ 4) gp a (σ 3 2).toNat with q | ⟨q1, q2, q3⟩
      · omega
      · unfold mkv
        rw [if_neg (by omega)]
        have q4 := q3.1
        have q5 := q3.2.1
        unfold sv
        omega
    rw [e]
    exact hp
  · rcases seen_rg (σ 10 3) set (σ 4) gp a (σ 3 2).toNat with q | ⟨q1, q2, q3⟩
    · unfold sv at hp
      rw [q] at hp
      exact hp
    · omega
theorem s_X6_cellsSeen {σ : GS} {set : Int} {gp : Nat → Int} {b : Int} {Post : Int → Prop} (h : LV σ set gp) (hb : 0 ≤ b ∧ b ≤ 2147483647) (hp : Post (cnt (fun p => sv σ set gp p = b) 28)) : vc_X6_cellsSeen σ b Post := by
  have h0 := h.1.1
  have hg := h.2.2.2.1
  have hr := rch_rg hg (n := (σ 3 2).toNat) (by omega)
  obtain ⟨r, er⟩ := Int.eq_ofNat_of_zero_le hr.1
  unfold vc_X6_cellsSeen
  refine s_X6_reach h ?_
  rw [er]
  refine ⟨fun n v p => ∃ i : Nat, i ≤ r ∧ n = r - i ∧ p = i ∧ v = cnt (fun p => sv σ set gp p = b) i, ⟨r, 0, by omega, by omega, rfl, rfl⟩, ?_⟩
  rintro n v p ⟨i, h1, h2, rfl, rfl⟩
  refine ⟨by omega, by omega, fun hz => ?_, fun hz => s_X6_bladeAt h (by omega) ?_⟩
  · have e : i = r := by omega
    subst e
    rw [show (28 : Nat) = i + (28 - i) by omega, cnt_stop (fun k hk => by unfold sv; rw [seen_rch hg (by omega)]; omega)] at hp
    exact hp
  · have hs := seen_rg (σ 10 3) set (σ 4) gp i (σ 3 2).toNat
    refine ⟨by unfold sv; omega, by omega, fun q => ⟨r - (i + 1), by omega, i + 1, by omega, rfl, by omega, ?_⟩, fun q => ⟨r - (i + 1), by omega, i + 1, by omega, rfl, by omega, ?_⟩⟩
    · simp only [cnt]; rw [if_neg q]; omega
    · simp only [cnt]; rw [if_pos q]
theorem s_X6_placesSeen {σ : GS} {set : Int} {gp : Nat → Int} {Post : Int → Prop} (h : LV σ set gp) (hp : Post (cnt (fun p => 0 ≤ sv σ set gp p) 28)) : vc_X6_placesSeen σ Post := by
  have h0 := h.1.1
  have hg := h.2.2.2.1
  have hr := rch_rg hg (n := (σ 3 2).toNat) (by omega)
  obtain ⟨r, er⟩ := Int.eq_ofNat_of_zero_le hr.1
  unfold vc_X6_placesSeen
  refine s_X6_reach h ?_
  rw [er]
  refine ⟨fun n v p => ∃ i : Nat, i ≤ r ∧ n = r - i ∧ p = i ∧ v = cnt (fun p => 0 ≤ sv σ set gp p) i, ⟨r, 0, by omega, by omega, rfl, rfl⟩, ?_⟩
  rintro n v p ⟨i, h1, h2, rfl, rfl⟩
  refine ⟨by omega, by omega, fun hz => ?_, fun hz => s_X6_markAt h (by omega) ?_⟩
  · have e : i = r := by omega
    subst e
    rw [show (28 : Nat) = i + (28 - i) by omega, cnt_stop (fun k hk => by unfold sv; rw [seen_rch hg (by omega)]; omega)] at hp
    exact hp
  · have hm := mkv_rg (set := set) (kd := σ 4) (gp := gp) (n := (σ 3 2).toNat) (p := i) h.2.1 (by omega)
    have hng := mkv_neg (set := set) (kd := σ 4) (gp := gp) (n := (σ 3 2).toNat) (p := i) h.2.1.1
    refine ⟨by omega, fun q => ⟨r - (i + 1), by omega, i + 1, by omega, rfl, by omega, ?_⟩, fun q => ⟨r - (i + 1), by omega, i + 1, by omega, rfl, by omega, ?_⟩⟩
    · simp only [cnt]; rw [if_neg (by unfold sv; omega)]; omega
    · simp only [cnt]; rw [if_pos (by unfold sv; omega)]
theorem ltr_neg {side set : Int} {kd gp lt : Nat → Int} {n : Nat} {p : Int} (h : seen side set kd gp p n = -9) : ltr side set kd gp lt n p = -9 := by
  unfold ltr
  rw [h]
  rfl
theorem s_X6_placesWith {σ : GS} {set : Int} {gp : Nat → Int} {b : Int} {Post : Int → Prop} (h : LV σ set gp) (hlt : ∀ i, rg (σ 5 i)) (hb : 0 ≤ b ∧ b ≤ 2147483647) (hp : Post (cnt (fun p => lv_ σ set gp p = b) 28)) : vc_X6_placesWith σ b Post := by
  have h0 := h.1.1
  have hg := h.2.2.2.1
  have hr := rch_rg hg (n := (σ 3 2).toNat) (by omega)
  obtain ⟨r, er⟩ := Int.eq_ofNat_of_zero_le hr.1
  unfold vc_X6_placesWith
  refine s_X6_reach h ?_
  rw [er]
  refine ⟨fun n v p => ∃ i : Nat, i ≤ r ∧ n = r - i ∧ p = i ∧ v = cnt (fun p => lv_ σ set gp p = b) i, ⟨r, 0, by omega, by omega, rfl, rfl⟩, ?_⟩
  rintro n v p ⟨i, h1, h2, rfl, rfl⟩
  refine ⟨by omega, by omega, fun hz => ?_, fun hz => s_X6_letterAt h (by omega) ?_⟩
  · have e : i = r := by omega
    subst e
    rw [show (28 : Nat) = i + (28 - i) by omega, cnt_stop (fun k hk => by unfold lv_; rw [ltr_neg (seen_rch hg (by omega))]; omega)] at hp
    exact hp
  · have hl : rg (lv_ σ set gp i) := by
      unfold lv_ ltr
      split
      · decide
      · exact hlt _
    refine ⟨hl, by omega, fun q => ⟨r - (i + 1), by omega, i + 1, by omega, rfl, by omega, ?_⟩, fun q => ⟨r - (i + 1), by omega, i + 1, by omega, rfl, by omega, ?_⟩⟩
    · simp only [cnt]; rw [if_neg q]; omega
    · simp only [cnt]; rw [if_pos q]
theorem s_X6_wide {σ : GS} {set : Int} {gp : Nat → Int} {Post : Int → Prop} (h : LV σ set gp) (hp : Post (lst (fun p => 0 ≤ sv σ set gp p) 28)) : vc_X6_wide σ Post := by
  have h0 := h.1.1
  have hg := h.2.2.2.1
  have hr := rch_rg hg (n := (σ 3 2).toNat) (by omega)
  obtain ⟨r, er⟩ := Int.eq_ofNat_of_zero_le hr.1
  unfold vc_X6_wide
  refine s_X6_reach h ?_
  rw [er]
  rw [show (28 : Nat) = r + (28 - r) by omega, lst_stop (fun k hk => by unfold sv; rw [seen_rch hg (by omega)]; omega)] at hp
  refine ⟨fun n p => ∃ i : Nat, i ≤ r ∧ n = i ∧ p = (i : Int) - 1 ∧ lst (fun p => 0 ≤ sv σ set gp p) r = lst (fun p => 0 ≤ sv σ set gp p) i, ⟨r, r, by omega, rfl, rfl, rfl⟩, ?_⟩
  rintro n p ⟨i, h1, h2, rfl, h3⟩
  rw [h3] at hp
  refine ⟨by omega, fun hz => ?_, fun hz => ?_⟩
  · have e : i = 0 := by omega
    subst e
    exact hp
  · obtain ⟨j, rfl⟩ : ∃ j, i = j + 1 := ⟨i - 1, by omega⟩
    rw [show (((j + 1 : Nat) : Int) - 1) = (j : Int) by omega]
    have hm := mkv_rg (set := set) (kd := σ 4) (gp := gp) (n := (σ 3 2).toNat) (p := j) h.2.1 (by omega)
    have hng := mkv_neg (set := set) (kd := σ 4) (gp := gp) (n := (σ 3 2).toNat) (p := j) h.2.1.1
    refine s_X6_markAt h (by omega) ⟨by omega, fun q => ⟨j, by omega, j, by omega, rfl, by omega, ?_⟩, fun q => ?_⟩
    · rw [h3]
      simp only [lst]
      rw [if_neg (by unfold sv; omega)]
    · simp only [lst] at hp
      rw [if_pos (by unfold sv; omega)] at hp
      exact hp
/-! the word: w its letters, n how many; lt the letter at each place -/
abbrev ra (lt : Int → Int) (w : Nat → Int) (n : Nat) (step p : Int) : Prop := ∀ k, k < n → lt (p + k * step) = w k
theorem ra_dn {lt : Int → Int} {w : Nat → Int} {n : Nat} {step p : Int} : ra lt w (n + 1) step p ↔ ra lt w n step p ∧ lt (p + n * step) = w n := by
  constructor
  · intro h
    exact ⟨fun k hk => h k (by omega), h n (by omega)⟩
  · rintro ⟨h1, h2⟩ k hk
    by_cases e : k = n
    · rw [e]; exact h2
    · exact h1 k (by omega)
/-- where it is read: from the front the first place, from behind the last one -/
def rd (side : Int) (lt : Int → Int) (w : Nat → Int) (n : Nat) : Int := if n = 0 then 0 else if side = 0 then fnd (fun p => ra lt w n 1 p) 28 else fndL (fun p => ra lt w n (-1) p) 28
theorem rd_rg (side : Int) (lt : Int → Int) (w : Nat → Int) (n : Nat) : rd side lt w n = -9 ∨ (0 ≤ rd side lt w n ∧ rd side lt w n < 28) := by
  unfold rd
  split
  · omega
  · split
    · have := fnd_rg (fun p : Nat => ra lt w n 1 p) 28
      omega
    · have := fndL_rg (fun p : Nat => ra lt w n (-1) p) 28
      omega
def WordX (σ : GS) : Prop := (0 ≤ σ 21 1 ∧ σ 21 1 ≤ 5) ∧ ∀ i, 0 ≤ σ 22 i ∧ σ 22 i ≤ 255
abbrev LtX (σ : GS) : Prop := ∀ i, 0 ≤ σ 5 i ∧ σ 5 i ≤ 255
theorem lv_rg {σ : GS} {set : Int} {gp : Nat → Int} (hl : LtX σ) (p : Int) : rg (lv_ σ set gp p) := by
  unfold lv_ ltr
  split
  · decide
  · have := hl (mkv (σ 10 3) set (σ 4) gp (σ 3 2).toNat p).toNat
    omega
theorem s_X8_isReadAt {σ : GS} {set : Int} {gp : Nat → Int} {a step : Int} {Post : Int → Prop} (h : LV σ set gp) (hw : WordX σ) (hl : LtX σ) (ha : 0 ≤ a ∧ a ≤ 28) (hst : step = 1 ∨ step = -1) (hp : Post (bi (ra (lv_ σ set gp) (σ 22) (σ 21 1).toNat step a))) : vc_X8_isReadAt σ a step Post := by
  have h1 := hw.1
  obtain ⟨m, hm⟩ := Int.eq_ofNat_of_zero_le h1.1
  unfold vc_X8_isReadAt
  refine ⟨fun n v => ∃ i : Nat, i ≤ m ∧ n = m - i ∧ v = i ∧ ra (lv_ σ set gp) (σ 22) i step a, ⟨m, 0, by omega, by omega, rfl, fun k hk => absurd hk (Nat.not_lt_zero k)⟩, ?_⟩
  rintro n v ⟨i, q1, q2, rfl, q3⟩
  have hm2 : (i : Int) * step = i ∨ (i : Int) * step = -i := by
    rcases hst with rfl | rfl
    · left; omega
    · right; omega
  refine ⟨by omega, by omega, fun hz => ?_, fun hz => s_X6_letterAt h (by omega) ⟨by omega, lv_rg hl _, ?_, fun hz2 => ⟨m - (i + 1), by omega, i + 1, by omega, rfl, by omega, ra_dn.mpr ⟨q3, hz2⟩⟩, fun hz2 => ?_⟩⟩
  · refine pt ?_ hp
    rw [show (σ 21 1).toNat = i by omega]
    exact q3
  · have := hw.2 ((i : Int)).toNat
    omega
  · refine pf (fun q => hz2 ?_) hp
    rw [Int.toNat_natCast]
    exact q i (by omega)
theorem lv_far {σ : GS} {set : Int} {gp : Nat → Int} (h : LV σ set gp) {p : Int} (hp : rch gp (σ 3 2).toNat ≤ p) : lv_ σ set gp p = -9 := ltr_neg (seen_rch h.2.2.2.1 hp)
theorem s_X8_firstRead {σ : GS} {set : Int} {gp : Nat → Int} {Post : Int → Prop} (h : LV σ set gp) (hw : WordX σ) (hl : LtX σ) (hp : Post (rd (σ 10 3) (lv_ σ set gp) (σ 22) (σ 21 1).toNat)) : vc_X8_firstRead σ Post := by
  have h0 := h.1.1
  have hg := h.2.2.2.1
  have hsd := h.2.1
  have h1 := hw.1
  have hr := rch_rg hg (n := (σ 3 2).toNat) (by omega)
  obtain ⟨r, er⟩ := Int.eq_ofNat_of_zero_le hr.1
  have far : ∀ (step : Int) (k : Nat), r ≤ k → ¬ σ 21 1 = 0 → ¬ ra (lv_ σ set gp) (σ 22) (σ 21 1).toNat step k := by
    intro step k hk hz q
    have q0 := q 0 (by omega)
    rw [show (k : Int) + ((0 : Nat) : Int) * step = k by simp, lv_far h (by omega)] at q0
    have := hw.2 0
    omega
  unfold vc_X8_firstRead
  refine ⟨by omega, fun hz => s_X6_reach h ?_, fun hz => ?_⟩
  · rw [er]
    unfold vc_X6_side
    refine ⟨by omega, fun hs => ⟨fun _ => ?_, fun q => absurd (by decide) q⟩, fun hs => ⟨fun q => absurd q (by decide), fun _ => ?_⟩⟩
    · unfold rd at hp
      rw [if_neg (by omega), if_neg hs] at hp
      refine ⟨fun n p v => ∃ i : Nat, i ≤ r ∧ n = r - i ∧ v = i ∧ p = (r : Int) - 1 - i ∧ ∀ j : Nat, r - i ≤ j → ¬ ra (lv_ σ set gp) (σ 22) (σ 21 1).toNat (-1) j, ⟨r, 0, by omega, by omega, rfl, by omega, fun j hj => far _ j (by omega) hz⟩, ?_⟩
      rintro n p v ⟨i, q1, q2, rfl, rfl, q3⟩
      refine ⟨by omega, by omega, fun hz2 => ?_, fun hz2 => ?_⟩
      · rw [fndL_none (fun k _ => q3 k (by omega))] at hp
        exact hp
      · obtain ⟨P, hP⟩ := Int.eq_ofNat_of_zero_le (show 0 ≤ (r : Int) - 1 - i by omega)
        rw [hP]
        refine s_X8_isReadAt h hw hl (by omega) (Or.inr rfl) (bi_eq (fun q => ⟨r - (i + 1), by omega, i + 1, by omega, rfl, by omega, by omega, fun j hj => ?_⟩) (fun q => ?_))
        · by_cases e : j = P
          · rw [e]; exact q
          · exact q3 j (by omega)
        · rw [show (28 : Nat) = P + 1 + (27 - P) by omega, fndL_at q (27 - P) (fun j hj _ => q3 j (by omega))] at hp
          exact hp
    · unfold rd at hp
      rw [if_neg (by omega), if_pos hs] at hp
      refine ⟨fun n p v => ∃ i : Nat, i ≤ r ∧ n = r - i ∧ v = i ∧ p = i ∧ ∀ j : Nat, j < i → ¬ ra (lv_ σ set gp) (σ 22) (σ 21 1).toNat 1 j, ⟨r, 0, by omega, by omega, rfl, rfl, fun j hj => absurd hj (Nat.not_lt_zero j)⟩, ?_⟩
      rintro n p v ⟨i, q1, q2, rfl, rfl, q3⟩
      refine ⟨by omega, by omega, fun hz2 => ?_, fun hz2 => ?_⟩
      · rw [fnd_none (fun k _ => ?_)] at hp
        · exact hp
        · by_cases e : k < i
          · exact q3 k e
          · exact far _ k (by omega) hz
      · refine s_X8_isReadAt h hw hl (by omega) (Or.inl rfl) (bi_eq (fun q => ⟨r - (i + 1), by omega, i + 1, by omega, rfl, by omega, by omega, fun j hj => ?_⟩) (fun q => ?_))
        · by_cases e : j = i
          · rw [e]; exact q
          · exact q3 j (by omega)
        · rw [show (28 : Nat) = i + 1 + (27 - i) by omega, fnd_at q q3 (27 - i)] at hp
          exact hp
  · unfold rd at hp
    rw [if_pos (by omega)] at hp
    exact hp
theorem s_X8_isRead {σ : GS} {set : Int} {gp : Nat → Int} {Post : Int → Prop} (h : LV σ set gp) (hw : WordX σ) (hl : LtX σ) (hp : Post (bi (0 ≤ rd (σ 10 3) (lv_ σ set gp) (σ 22) (σ 21 1).toNat))) : vc_X8_isRead σ Post := by
  have := rd_rg (σ 10 3) (lv_ σ set gp) (σ 22) (σ 21 1).toNat
  unfold vc_X8_isRead
  exact s_X8_firstRead h hw hl ⟨by omega, fun q => pf (by omega) hp, fun q => pt (by omega) hp⟩
