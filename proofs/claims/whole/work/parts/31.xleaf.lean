/-! ===== the class's small methods, by what they answer ===== -/
theorem pf {Post : Int → Prop} {p : Prop} [Decidable p] (h : ¬ p) (hp : Post (bi p)) : Post 0 := by rw [bi_f h] at hp; exact hp
theorem pt {Post : Int → Prop} {p : Prop} [Decidable p] (h : p) (hp : Post (bi p)) : Post 1 := by rw [bi_t h] at hp; exact hp
theorem upR_s (σ : GS) (k : Nat) (f : Nat → Int) : upR σ k f k = f := if_pos rfl
theorem upR_n (σ : GS) {k a : Nat} (f : Nat → Int) (h : a ≠ k) : upR σ k f a = σ a := if_neg h
theorem upR_upR (σ : GS) (k : Nat) (f g : Nat → Int) : upR (upR σ k f) k g = upR σ k g := by
  funext a
  unfold upR
  split <;> rfl
theorem up2_upR (σ : GS) (k j : Nat) (f : Nat → Int) (v : Int) : up2 (upR σ k f) k j v = upR σ k (up1 f j v) := by
  unfold up2
  rw [upR_s, upR_upR]
theorem upR_id (σ : GS) (k : Nat) : upR σ k (σ k) = σ := by
  funext a
  unfold upR
  split
  · rename_i h; rw [h]
  · rfl
theorem up2_n (σ : GS) {k a : Nat} (j : Nat) (v : Int) (h : a ≠ k) : up2 σ k j v a = σ a := if_neg h
theorem up2_s (σ : GS) (k j : Nat) (v : Int) : up2 σ k j v k = up1 (σ k) j v := if_pos rfl
theorem up1_s (f : Nat → Int) (j : Nat) (v : Int) : up1 f j v j = v := if_pos rfl
theorem up1_n (f : Nat → Int) {j i : Nat} (v : Int) (h : i ≠ j) : up1 f j v i = f i := if_neg h
def FanR (σ : GS) : Prop := (0 ≤ σ 3 2 ∧ σ 3 2 ≤ 6) ∧ ∀ i, 0 ≤ σ 4 i ∧ σ 4 i ≤ 3
abbrev GR (σ : GS) (k : Nat) : Prop := ∀ i, 0 ≤ σ k i ∧ σ k i ≤ 4
theorem s_X9_isBit {σ : GS} {a : Int} {Post : Int → Prop} (ha : rg a) (hp : Post (bi (a = 0 ∨ a = 1))) : vc_X9_isBit σ a Post := by
  unfold vc_X9_isBit
  refine ⟨ha, fun h => pt (by omega) hp, fun h => ⟨fun h2 => pf (by omega) hp, fun h2 => pt (by omega) hp⟩⟩
theorem s_X9_isPlace {σ : GS} {a : Int} {Post : Int → Prop} (ha : rg a) (hp : Post (bi (0 ≤ a ∧ a < 28))) : vc_X9_isPlace σ a Post := by
  unfold vc_X9_isPlace
  refine ⟨ha, fun h => pf (by omega) hp, fun h => ⟨fun h2 => pf (by omega) hp, fun h2 => pt (by omega) hp⟩⟩
theorem s_X9_isLetter {σ : GS} {a : Int} {Post : Int → Prop} (ha : rg a) (hp : Post (bi (97 ≤ a ∧ a ≤ 122))) : vc_X9_isLetter σ a Post := by
  unfold vc_X9_isLetter
  refine ⟨ha, fun h => pf (by omega) hp, fun h => ⟨fun h2 => pf (by omega) hp, fun h2 => pt (by omega) hp⟩⟩
theorem s_X1_has {σ : GS} {a : Int} {Post : Int → Prop} (hn : FanR σ) (ha : rg a) (hp : Post (bi (0 ≤ a ∧ a < σ 3 2))) : vc_X1_has σ a Post := by
  have h0 := hn.1
  unfold vc_X1_has
  refine ⟨ha, fun h => pf (by omega) hp, fun h => ⟨by omega, fun h2 => pf (by omega) hp, fun h2 => pt (by omega) hp⟩⟩
theorem s_X1_hasGap {σ : GS} {a : Int} {Post : Int → Prop} (hn : FanR σ) (ha : rg a) (hp : Post (bi (0 ≤ a ∧ a < σ 3 2 - 1))) : vc_X1_hasGap σ a Post := by
  have h0 := hn.1
  unfold vc_X1_hasGap
  refine ⟨ha, fun h => pf (by omega) hp, fun h => ⟨by omega, fun h2 => pf (by omega) hp, fun h2 => pt (by omega) hp⟩⟩
abbrev fre (σ : GS) (a : Int) : Prop := 0 ≤ a ∧ a < σ 3 2 - 1 ∧ σ 4 a.toNat ≠ 3
theorem s_X1_canPart {σ : GS} {a : Int} {Post : Int → Prop} (hn : FanR σ) (ha : rg a) (hp : Post (bi (fre σ a))) : vc_X1_canPart σ a Post := by
  have h0 := hn.1
  have h1 := hn.2 a.toNat
  unfold vc_X1_canPart
  refine ⟨ha, fun h => pf (by omega) hp, fun h => ⟨by omega, fun h2 => pf (by omega) hp, fun h2 => ⟨by omega, by omega, fun h3 => pf (by omega) hp, fun h3 => pt (by omega) hp⟩⟩⟩
theorem s_X1_kindOf {σ : GS} {a : Int} {Post : Int → Prop} (hn : FanR σ) (ha : rg a) (hp : Post (if 0 ≤ a ∧ a < σ 3 2 then σ 4 a.toNat else -9)) : vc_X1_kindOf σ a Post := by
  have h0 := hn.1
  unfold vc_X1_kindOf
  refine ⟨ha, fun h => ?_, fun h => ⟨by omega, fun h2 => ?_, fun h2 => ⟨by omega, ?_⟩⟩⟩
  · rw [if_neg (by omega)] at hp; exact hp
  · rw [if_neg (by omega)] at hp; exact hp
  · rw [if_pos (by omega)] at hp; exact hp
theorem s_X1_widthOf {σ : GS} {a : Int} {Post : Int → Prop} (hn : FanR σ) (ha : 0 ≤ a ∧ a < σ 3 2) (hp : Post (if σ 4 a.toNat = 2 then 2 else 4)) : vc_X1_widthOf σ a Post := by
  have h0 := hn.1
  have h1 := hn.2 a.toNat
  unfold vc_X1_widthOf
  refine s_X1_kindOf hn (by omega) ?_
  rw [if_pos ha]
  refine ⟨by omega, fun h => ?_, fun h => ?_⟩
  · rw [if_neg h] at hp; exact hp
  · rw [if_pos h] at hp; exact hp
theorem s_X1_isSolid {σ : GS} {a b : Int} {Post : Int → Prop} (hn : FanR σ) (ha : rg a) (hb : rg b) (hp : Post (bi ((0 ≤ a ∧ a < σ 3 2) ∧ sol (σ 4 a.toNat) b))) : vc_X1_isSolid σ a b Post := by
  have h0 := hn.1
  have h1 := hn.2 a.toNat
  unfold vc_X1_isSolid
  refine ⟨ha, fun h => pf (by omega) hp, fun h => ⟨by omega, fun h2 => pf (by omega) hp, fun h2 => ⟨hb, fun h3 => pf (by omega) hp, fun h3 => ⟨fun h4 => ⟨by omega, by omega, fun h5 => ⟨by omega, by omega, fun h6 => pf (by omega) hp, fun h6 => pt (by omega) hp⟩, fun h5 => ⟨fun h6 => pf (by omega) hp, fun h6 => pt (by omega) hp⟩, fun h5 h6 => pt (by omega) hp⟩, fun h4 => pf (by omega) hp⟩⟩⟩⟩
theorem s_X1_letterOf {σ : GS} {a : Int} {Post : Int → Prop} (ha : rg a) (hp : Post (if 0 ≤ a ∧ a < 48 then σ 5 a.toNat else -9)) : vc_X1_letterOf σ a Post := by
  unfold vc_X1_letterOf
  refine ⟨ha, fun h => ?_, fun h => ⟨by omega, fun h2 => ?_, fun h2 => ⟨by omega, ?_⟩⟩⟩
  · rw [if_neg (by omega)] at hp; exact hp
  · rw [if_neg (by omega)] at hp; exact hp
  · rw [if_pos (by omega)] at hp; exact hp
theorem s_X2_at {σ : GS} {k : Nat} {a : Int} {Post : Int → Prop} (hk : k = 6 ∨ k = 8) (ha : 0 ≤ a ∧ a < 5) (hp : Post (σ (k + 1) a.toNat)) : vc_X2_at σ k a Post := by
  unfold vc_X2_at
  exact ⟨hk, by omega, fun h => by omega, fun h => ⟨fun h2 => by omega, fun h2 => ⟨ha, hp⟩⟩⟩
abbrev cw (σ : GS) (k : Nat) (a : Int) : Prop := fre σ a ∧ σ (k + 1) a.toNat < 4
abbrev cnw (σ : GS) (k : Nat) (a : Int) : Prop := fre σ a ∧ 0 < σ (k + 1) a.toNat
theorem s_X2_canWiden {σ : GS} {k : Nat} {a : Int} {Post : Int → Prop} (hk : k = 6 ∨ k = 8) (hn : FanR σ) (hg : GR σ (k + 1)) (ha : rg a) (hp : Post (bi (cw σ k a))) : vc_X2_canWiden σ k a Post := by
  have h0 := hn.1
  have h1 := hg a.toNat
  unfold vc_X2_canWiden
  refine ⟨hk, s_X1_canPart hn ha (bi_eq (fun h => pf (fun q => h q.1) hp) (fun h => ⟨by omega, by omega, fun h3 => pf (by omega) hp, fun h3 => pt (by omega) hp⟩))⟩
theorem s_X2_canNarrow {σ : GS} {k : Nat} {a : Int} {Post : Int → Prop} (hk : k = 6 ∨ k = 8) (hn : FanR σ) (hg : GR σ (k + 1)) (ha : rg a) (hp : Post (bi (cnw σ k a))) : vc_X2_canNarrow σ k a Post := by
  have h0 := hn.1
  have h1 := hg a.toNat
  unfold vc_X2_canNarrow
  refine ⟨hk, s_X1_canPart hn ha (bi_eq (fun h => pf (fun q => h q.1) hp) (fun h => ⟨by omega, by omega, fun h3 => pf (by omega) hp, fun h3 => pt (by omega) hp⟩))⟩
theorem s_X2_widen {σ : GS} {k : Nat} {a : Int} {Post : Int → GS → Prop} (hk : k = 6 ∨ k = 8) (hn : FanR σ) (hg : GR σ (k + 1)) (ha : rg a) (h1 : cw σ k a → Post 1 (up2 σ (k + 1) a.toNat (σ (k + 1) a.toNat + 1))) (h2 : ¬ cw σ k a → Post 0 σ) : vc_X2_widen σ k a Post := by
  have h0 := hn.1
  unfold vc_X2_widen
  refine ⟨hk, s_X2_canWiden hk hn hg ha (bi_ne (fun h => ⟨by omega, h1 h⟩) (fun h => h2 h))⟩
theorem s_X2_narrow {σ : GS} {k : Nat} {a : Int} {Post : Int → GS → Prop} (hk : k = 6 ∨ k = 8) (hn : FanR σ) (hg : GR σ (k + 1)) (ha : rg a) (h1 : cnw σ k a → Post 1 (up2 σ (k + 1) a.toNat (σ (k + 1) a.toNat - 1))) (h2 : ¬ cnw σ k a → Post 0 σ) : vc_X2_narrow σ k a Post := by
  have h0 := hn.1
  unfold vc_X2_narrow
  refine ⟨hk, s_X2_canNarrow hk hn hg ha (bi_ne (fun h => ⟨by omega, h1 h⟩) (fun h => h2 h))⟩
/-- all gaps that can be are one more -/
def wa (σ : GS) (k : Nat) : Nat → Int := fun g => if cw σ k g then σ (k + 1) g + 1 else σ (k + 1) g
theorem s_X2_widenAll {σ : GS} {k : Nat} {Post : Int → GS → Prop} (hk : k = 6 ∨ k = 8) (hn : FanR σ) (hg : GR σ (k + 1)) (hp : Post (cnt (fun g => cw σ k g) 5) (upR σ (k + 1) (wa σ k))) : vc_X2_widenAll σ k Post := by
  unfold vc_X2_widenAll
  refine ⟨hk, fun n v g σ' => ∃ i : Nat, i ≤ 5 ∧ n = 5 - i ∧ g = i ∧ v = cnt (fun g => cw σ k g) i ∧ σ' = upR σ (k + 1) (fun j => if j < i then wa σ k j else σ (k + 1) j), ⟨5, 0, by omega, by omega, rfl, rfl, ?_⟩, ?_⟩
  · simp only [Nat.not_lt_zero, if_false]
    exact (upR_id σ (k + 1)).symm
  · rintro n v g σ' ⟨i, h1, h2, rfl, rfl, rfl⟩
    refine ⟨by omega, fun h => ?_, fun h => ?_⟩
    · have e : i = 5 := by omega
      subst e
      have e2 : (fun j => if j < 5 then wa σ k j else σ (k + 1) j) = wa σ k := by
        funext j
        split
        · rfl
        · rename_i h9
          unfold wa
          have := hn.1
          rw [if_neg (by omega)]
      rw [e2]
      exact hp
    · have h3 : upR σ (k + 1) (fun j => if j < i then wa σ k j else σ (k + 1) j) 3 = σ 3 := upR_n _ _ (by omega)
      have h4 : upR σ (k + 1) (fun j => if j < i then wa σ k j else σ (k + 1) j) 4 = σ 4 := upR_n _ _ (by omega)
      have h5 : upR σ (k + 1) (fun j => if j < i then wa σ k j else σ (k + 1) j) (k + 1) = fun j => if j < i then wa σ k j else σ (k + 1) j := upR_s _ _ _
      have hcw : cw (upR σ (k + 1) (fun j => if j < i then wa σ k j else σ (k + 1) j)) k i ↔ cw σ k i := by
        unfold cw fre
        rw [h3, h4, h5]
        simp
      refine s_X2_widen hk ⟨by rw [h3]; exact hn.1, by rw [h4]; exact hn.2⟩ ?_ (by omega) (fun hc => ?_) (fun hc => ?_)
      · intro j
        rw [h5]
        have := hg j
        show 0 ≤ (if j < i then wa σ k j else σ (k + 1) j) ∧ (if j < i then wa σ k j else σ (k + 1) j) ≤ 4
        unfold wa cw
        simp only [Int.toNat_natCast]
        split
        · split <;> omega
        · omega
      · have hc2 := hcw.mp hc
        refine ⟨by decide, fun h9 => by omega, fun _ => ⟨5 - (i + 1), by omega, i + 1, by omega, rfl, by omega, ?_, ?_⟩⟩
        · simp only [cnt]
          rw [if_pos hc2]
        · rw [h5, up2_upR]
          congr 1
          funext j
          unfold up1
          simp only [Int.toNat_natCast, Nat.lt_irrefl, if_false]
          by_cases e : j = i
          · subst e
            rw [if_pos rfl, if_pos (by omega)]
            unfold wa
            rw [if_pos hc2]
          · rw [if_neg e]
            by_cases e2 : j < i
            · rw [if_pos e2, if_pos (by omega)]
            · rw [if_neg e2, if_neg (by omega)]
      · have hc2 : ¬ cw σ k i := fun q => hc (hcw.mpr q)
        refine ⟨by decide, fun _ => ⟨5 - (i + 1), by omega, i + 1, by omega, rfl, by omega, ?_, ?_⟩, fun h9 => by omega⟩
        · simp only [cnt]
          rw [if_neg hc2, Int.add_zero]
        · congr 1
          funext j
          by_cases e : j = i
          · subst e
            rw [if_neg (by omega), if_pos (by omega)]
            unfold wa
            rw [if_neg hc2]
          · by_cases e2 : j < i
            · rw [if_pos e2, if_pos (by omega)]
            · rw [if_neg e2, if_neg (by omega)]
theorem s_J7_fill {σ : GS} {r ln : Nat} {a : Int} {Post : GS → Prop} (hr : lay r = cA ln ∧ r < 65 ∧ ln < 2147483648) (hp : Post (upR σ r (fun j => if j < ln then a else σ r j))) : vc_J7_fill_53178 σ r ln a Post := by
  unfold vc_J7_fill_53178
  refine ⟨hr, fun n g σ' => ∃ i : Nat, i ≤ ln ∧ n = ln - i ∧ g = i ∧ σ' = upR σ r (fun j => if j < i then a else σ r j), ⟨ln, 0, by omega, by omega, rfl, ?_⟩, ?_⟩
  · simp only [Nat.not_lt_zero, if_false]
    exact (upR_id σ r).symm
  · rintro n g σ' ⟨i, h1, h2, rfl, rfl⟩
    refine ⟨by omega, by omega, fun h => ?_, fun h => ⟨by omega, ln - (i + 1), by omega, i + 1, by omega, rfl, by omega, ?_⟩⟩
    · have e : i = ln := by omega
      subst e
      exact hp
    · rw [up2_upR]
      congr 1
      funext j
      unfold up1
      simp only [Int.toNat_natCast]
      by_cases e : j = i
      · subst e
        rw [if_pos rfl, if_pos (by omega)]
      · rw [if_neg e]
        by_cases e2 : j < i
        · rw [if_pos e2, if_pos (by omega)]
        · rw [if_neg e2, if_neg (by omega)]
/-- a row of five, cleared -/
def z5 (f : Nat → Int) : Nat → Int := fun j => if j < 5 then 0 else f j
theorem s_X2_clear {σ : GS} {k : Nat} {Post : GS → Prop} (hk : k = 6 ∨ k = 8) (hp : Post (upR σ (k + 1) (z5 (σ (k + 1))))) : vc_X2_clear σ k Post := by
  unfold vc_X2_clear
  exact ⟨hk, s_J7_fill ⟨(gr_lay hk).2.1, (gr_lay hk).2.2.2, by decide⟩ hp⟩
theorem s_X2_close {σ : GS} {k : Nat} {a : Int} {Post : GS → Prop} (hk : k = 6 ∨ k = 8) (ha : 0 ≤ a ∧ a < 5) (hp : Post (up2 σ (k + 1) a.toNat 0)) : vc_X2_close σ k a Post := by
  unfold vc_X2_close
  exact ⟨hk, by omega, fun h => by omega, fun h => ⟨fun h2 => by omega, fun h2 => ⟨ha, hp⟩⟩⟩
/-- the sum ahead of a blade: at most five gaps -/
theorem s_X2_sumAhead {σ : GS} {k : Nat} {a : Int} {Post : Int → Prop} (hk : k = 6 ∨ k = 8) (ha : 0 ≤ a ∧ a ≤ 6) (hp : Post (sm (σ (k + 1)) (min a 5).toNat)) : vc_X2_sumAhead σ k a Post := by
  unfold vc_X2_sumAhead
  refine ⟨hk, fun n v g => ∃ i : Nat, i ≤ 5 ∧ (i : Int) ≤ a ∧ n = 5 - i ∧ g = i ∧ v = sm (σ (k + 1)) i, ⟨5, 0, by omega, by omega, by omega, rfl, rfl⟩, ?_⟩
  rintro n v g ⟨i, h1, h1', h2, rfl, rfl⟩
  refine ⟨by omega, by omega, fun h => ?_, fun h => ⟨fun h3 => ?_, fun h3 => ⟨by omega, 5 - (i + 1), by omega, i + 1, by omega, by omega, rfl, by omega, ?_⟩⟩⟩
  · rw [show (min a 5).toNat = i by omega] at hp; exact hp
  · rw [show (min a 5).toNat = i by omega] at hp; exact hp
  · simp [sm]
theorem s_X2_sum {σ : GS} {k : Nat} {Post : Int → Prop} (hk : k = 6 ∨ k = 8) (hp : Post (sm (σ (k + 1)) 5)) : vc_X2_sum σ k Post := by
  unfold vc_X2_sum
  exact ⟨hk, s_X2_sumAhead hk (by omega) hp⟩
def fg (f : Nat → Int) : Nat → Int
  | 0 => 0
  | n + 1 => 10 * fg f n + f n
theorem fg_congr {f g : Nat → Int} : ∀ {n : Nat}, (∀ k, k < n → f k = g k) → fg f n = fg g n
  | 0, _ => rfl
  | n + 1, h => by rw [fg, fg, fg_congr (fun k hk => h k (by omega)), h n (by omega)]
theorem s_X2_figures {σ : GS} {k : Nat} {Post : Int → Prop} (hk : k = 6 ∨ k = 8) (hn : FanR σ) (hp : Post (fg (σ (k + 1)) (σ 3 2 - 1).toNat)) : vc_X2_figures σ k Post := by
  have h0 := hn.1
  unfold vc_X2_figures
  refine ⟨hk, fun n v g => ∃ i : Nat, (i : Int) ≤ max 0 (σ 3 2 - 1) ∧ n = 5 - i ∧ g = i ∧ v = fg (σ (k + 1)) i, ⟨5, 0, by omega, by omega, rfl, rfl⟩, ?_⟩
  rintro n v g ⟨i, h1, h2, rfl, rfl⟩
  refine ⟨by omega, fun h => ?_, fun h => s_X1_hasGap hn (by omega) (bi_eq (fun h3 => ?_) (fun h3 => ⟨by omega, 5 - (i + 1), by omega, i + 1, by omega, rfl, by omega, ?_⟩))⟩
  · rw [show (σ 3 2 - 1).toNat = i by omega] at hp; exact hp
  · rw [show (σ 3 2 - 1).toNat = i by omega] at hp; exact hp
  · simp [fg]
def ab (z : Int) : Int := if 0 ≤ z then z else 0 - z
theorem s_X2_stepsFrom {σ : GS} {k k1 : Nat} {Post : Int → Prop} (hk : k = 6 ∨ k = 8) (hk1 : k1 = 6 ∨ k1 = 8) (hg : GR σ (k + 1)) (hg1 : GR σ (k1 + 1)) (hp : Post (sm (fun g => ab (σ (k + 1) g - σ (k1 + 1) g)) 5)) : vc_X2_stepsFrom σ k k1 Post := by
  unfold vc_X2_stepsFrom
  refine ⟨hk, hk1, fun n v g => ∃ i : Nat, i ≤ 5 ∧ n = 5 - i ∧ g = i ∧ v = sm (fun g => ab (σ (k + 1) g - σ (k1 + 1) g)) i, ⟨5, 0, by omega, by omega, rfl, rfl⟩, ?_⟩
  rintro n v g ⟨i, h1, h2, rfl, rfl⟩
  have a1 := hg i
  have a2 := hg1 i
  refine ⟨by omega, fun h => ?_, fun h => ⟨by omega, by simp only [Int.toNat_natCast]; omega, 5 - (i + 1), by omega, i + 1, by omega, rfl, by omega, ?_⟩⟩
  · rw [show i = 5 by omega]; exact hp
  · simp [sm, ab]
