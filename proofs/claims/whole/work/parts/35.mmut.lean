/-! ===== the reference: gaps at levels, ways ===== -/
abbrev csp (σ : GS) (L : Nat) (a : Int) : Prop := 0 ≤ a ∧ a < σ 51 0 - 1 ∧ σ 52 a.toNat ≠ 3 ∧ gm σ L a.toNat < 4
abbrev cfo (σ : GS) (L : Nat) (a : Int) : Prop := 0 ≤ a ∧ a < σ 51 0 - 1 ∧ σ 52 a.toNat ≠ 3 ∧ 0 < gm σ L a.toNat
theorem ix5 {L : Nat} {a : Int} (ha : 0 ≤ a) : (5 * (L : Int) + a).toNat = 5 * L + a.toNat := by omega
theorem s_X10_canSpread {σ : GS} {L : Nat} {a : Int} {Post : Int → Prop} (hn : FanM σ) (hg : GM σ) (hL : L ≤ 1) (ha : rg a) (hp : Post (bi (csp σ L a))) : vc_X10_canSpread σ L a Post := by
  have h0 := hn.1
  unfold vc_X10_canSpread
  refine s_X10_isGap hn ha (bi_eq (fun q => pf (by omega) hp) (fun q => s_X10_isFree hn (by omega) (bi_eq (fun q2 => pf (by omega) hp) (fun q2 => ?_))))
  have h1 := hg (5 * L + a.toNat)
  rw [ix5 q.1]
  exact ⟨by omega, by omega, fun q3 => pf (by unfold csp gm; omega) hp, fun q3 => pt (by unfold csp gm; omega) hp⟩
theorem s_X10_canFold {σ : GS} {L : Nat} {a : Int} {Post : Int → Prop} (hn : FanM σ) (hg : GM σ) (hL : L ≤ 1) (ha : rg a) (hp : Post (bi (cfo σ L a))) : vc_X10_canFold σ L a Post := by
  have h0 := hn.1
  unfold vc_X10_canFold
  refine s_X10_isGap hn ha (bi_eq (fun q => pf (by omega) hp) (fun q => s_X10_isFree hn (by omega) (bi_eq (fun q2 => pf (by omega) hp) (fun q2 => ?_))))
  have h1 := hg (5 * L + a.toNat)
  rw [ix5 q.1]
  exact ⟨by omega, by omega, fun q3 => pf (by unfold cfo gm; omega) hp, fun q3 => pt (by unfold cfo gm; omega) hp⟩
theorem s_X10_gapsOf {σ : GS} {L : Nat} {Post : Int → Prop} (hn : FanM σ) (hL : L ≤ 1) (hp : Post (sm (gm σ L) (gN σ))) : vc_X10_gapsOf σ L Post := by
  have hG := gN_le hn
  unfold vc_X10_gapsOf
  refine ⟨fun n v g => ∃ i : Nat, i ≤ gN σ ∧ n = gN σ - i ∧ g = i ∧ v = sm (gm σ L) i, ⟨gN σ, 0, by omega, by omega, rfl, rfl⟩, ?_⟩
  rintro n v g ⟨i, h1, h2, rfl, rfl⟩
  refine s_X10_gapMany hn ⟨by omega, by omega, fun h => ?_, fun h => ⟨by omega, gN σ - (i + 1), by omega, i + 1, by omega, rfl, by omega, ?_⟩⟩
  · rw [show i = gN σ by omega]; exact hp
  · rw [show (5 * (L : Int) + (i : Int)).toNat = 5 * L + i by omega]
    rfl
theorem s_X10_figuresOf {σ : GS} {L : Nat} {Post : Int → Prop} (hn : FanM σ) (hL : L ≤ 1) (hp : Post (fg (gm σ L) (gN σ))) : vc_X10_figuresOf σ L Post := by
  have hG := gN_le hn
  unfold vc_X10_figuresOf
  refine ⟨fun n v g => ∃ i : Nat, i ≤ gN σ ∧ n = gN σ - i ∧ g = i ∧ v = fg (gm σ L) i, ⟨gN σ, 0, by omega, by omega, rfl, rfl⟩, ?_⟩
  rintro n v g ⟨i, h1, h2, rfl, rfl⟩
  refine s_X10_gapMany hn ⟨by omega, by omega, fun h => ?_, fun h => ⟨by omega, gN σ - (i + 1), by omega, i + 1, by omega, rfl, by omega, ?_⟩⟩
  · rw [show i = gN σ by omega]; exact hp
  · rw [show (5 * (L : Int) + (i : Int)).toNat = 5 * L + i by omega]
    rfl
theorem s_X10_farOf {σ : GS} {Post : Int → Prop} (hn : FanM σ) (hg : GM σ) (hp : Post (sm (fun g => ab (gm σ 1 g - gm σ 0 g)) (gN σ))) : vc_X10_farOf σ Post := by
  have hG := gN_le hn
  unfold vc_X10_farOf
  refine ⟨fun n v g => ∃ i : Nat, i ≤ gN σ ∧ n = gN σ - i ∧ g = i ∧ v = sm (fun g => ab (gm σ 1 g - gm σ 0 g)) i, ⟨gN σ, 0, by omega, by omega, rfl, rfl⟩, ?_⟩
  rintro n v g ⟨i, h1, h2, rfl, rfl⟩
  have e1 : σ 54 (5 + (i : Int)).toNat = gm σ 1 i := by unfold gm; rw [show (5 + (i : Int)).toNat = 5 * 1 + i by omega]
  have e0 : σ 54 ((i : Int)).toNat = gm σ 0 i := by unfold gm; rw [show ((i : Int)).toNat = 5 * 0 + i by omega]
  have a1 := gm_rg hg 1 i
  have a0 := gm_rg hg 0 i
  rw [e1, e0]
  refine s_X10_gapMany hn ⟨by omega, by omega, fun h => ?_, fun h => ⟨by omega, by omega, by omega, fun q => ⟨gN σ - (i + 1), by omega, i + 1, by omega, rfl, by omega, ?_⟩, fun q => ⟨gN σ - (i + 1), by omega, i + 1, by omega, rfl, by omega, ?_⟩⟩⟩
  · rw [show i = gN σ by omega]; exact hp
  · simp only [sm, ab]; rw [if_pos q]
  · simp only [sm, ab]; rw [if_neg q]; omega
/-- the level's gaps, all 0 -/
def z54 (σ : GS) (L : Nat) : Nat → Int := fun i => if 5 * L ≤ i ∧ i < 5 * L + 5 then 0 else σ 54 i
theorem s_X10_snapOn {σ : GS} {L : Nat} {Post : GS → Prop} (hL : L ≤ 1) (hp : Post (upR σ 54 (z54 σ L))) : vc_X10_snapOn σ L Post := by
  unfold vc_X10_snapOn
  refine ⟨fun n g σ' => ∃ i : Nat, i ≤ 5 ∧ n = 5 - i ∧ g = i ∧ σ' = upR σ 54 (fun j => if 5 * L ≤ j ∧ j < 5 * L + i then 0 else σ 54 j), ⟨5, 0, by omega, by omega, rfl, ?_⟩, ?_⟩
  · rw [show (fun j => if 5 * L ≤ j ∧ j < 5 * L + 0 then 0 else σ 54 j) = σ 54 by funext j; rw [if_neg (by omega)]]
    exact (upR_id σ 54).symm
  · rintro n g σ' ⟨i, h1, h2, rfl, rfl⟩
    refine ⟨by omega, fun h => ?_, fun h => ⟨by omega, 5 - (i + 1), by omega, i + 1, by omega, rfl, by omega, ?_⟩⟩
    · rw [show i = 5 by omega]; exact hp
    · rw [up2_upR]
      congr 1
      funext j
      unfold up1
      rw [show (5 * (L : Int) + (i : Int)).toNat = 5 * L + i by omega]
      by_cases e : j = 5 * L + i
      · rw [if_pos e, if_pos (by omega)]
      · rw [if_neg e]
        dsimp only
        by_cases e2 : 5 * L ≤ j ∧ j < 5 * L + i
        · rw [if_pos e2, if_pos (by omega)]
        · rw [if_neg e2, if_neg (by omega)]
/-- the trial level as the other -/
def t54 (σ : GS) : Nat → Int := fun i => if 5 ≤ i ∧ i < 10 then σ 54 (i - 5) else σ 54 i
theorem s_X10_layTrial {σ : GS} {Post : GS → Prop} (hp : Post (upR σ 54 (t54 σ))) : vc_X10_layTrial σ Post := by
  unfold vc_X10_layTrial
  refine ⟨fun n g σ' => ∃ i : Nat, i ≤ 5 ∧ n = 5 - i ∧ g = i ∧ σ' = upR σ 54 (fun j => if 5 ≤ j ∧ j < 5 + i then σ 54 (j - 5) else σ 54 j), ⟨5, 0, by omega, by omega, rfl, ?_⟩, ?_⟩
  · rw [show (fun j => if 5 ≤ j ∧ j < 5 + 0 then σ 54 (j - 5) else σ 54 j) = σ 54 by funext j; rw [if_neg (by omega)]]
    exact (upR_id σ 54).symm
  · rintro n g σ' ⟨i, h1, h2, rfl, rfl⟩
    refine ⟨by omega, fun h => ?_, fun h => ⟨by omega, by omega, 5 - (i + 1), by omega, i + 1, by omega, rfl, by omega, ?_⟩⟩
    · rw [show i = 5 by omega]; exact hp
    · rw [up2_upR, upR_s]
      congr 1
      funext j
      unfold up1
      rw [show (5 + (i : Int)).toNat = 5 + i by omega, Int.toNat_natCast]
      by_cases e : j = 5 + i
      · rw [if_pos e, if_neg (by omega), if_pos (by omega), e, show 5 + i - 5 = i by omega]
      · rw [if_neg e]
        dsimp only
        by_cases e2 : 5 ≤ j ∧ j < 5 + i
        · rw [if_pos e2, if_pos (by omega)]
        · rw [if_neg e2, if_neg (by omega)]
/-- all gaps of a level that can be are one more -/
def w54 (σ : GS) (L : Nat) : Nat → Int := fun i => if 5 * L ≤ i ∧ csp σ L ((i : Int) - 5 * L) then σ 54 i + 1 else σ 54 i
theorem s_X10_flingOn {σ : GS} {L : Nat} {Post : Int → GS → Prop} (hn : FanM σ) (hg : GM σ) (hL : L ≤ 1) (hp : Post (cnt (fun g => csp σ L g) 5) (upR σ 54 (w54 σ L))) : vc_X10_flingOn σ L Post := by
  have hG := gN_le hn
  have h0 := hn.1
  have out : ∀ g : Nat, gN σ ≤ g → ¬ csp σ L g := fun g hg2 q => by unfold gN at hg2; omega
  unfold vc_X10_flingOn
  refine ⟨fun n v g σ' => ∃ i : Nat, i ≤ gN σ ∧ n = gN σ - i ∧ g = i ∧ v = cnt (fun g => csp σ L g) i ∧ σ' = upR σ 54 (fun j => if j < 5 * L + i then w54 σ L j else σ 54 j), ⟨gN σ, 0, by omega, by omega, rfl, rfl, ?_⟩, ?_⟩
  · have e : (fun j => if j < 5 * L + 0 then w54 σ L j else σ 54 j) = σ 54 := by
      funext j
      split
      · unfold w54
        rw [if_neg (by omega)]
      · rfl
    rw [e]
    exact (upR_id σ 54).symm
  · rintro n v g σ' ⟨i, h1, h2, rfl, rfl, rfl⟩
    have e51 : upR σ 54 (fun j => if j < 5 * L + i then w54 σ L j else σ 54 j) 51 = σ 51 := upR_n _ _ (by decide)
    have e52 : upR σ 54 (fun j => if j < 5 * L + i then w54 σ L j else σ 54 j) 52 = σ 52 := upR_n _ _ (by decide)
    have e54 : upR σ 54 (fun j => if j < 5 * L + i then w54 σ L j else σ 54 j) 54 = fun j => if j < 5 * L + i then w54 σ L j else σ 54 j := upR_s _ _ _
    generalize hτ : upR σ 54 (fun j => if j < 5 * L + i then w54 σ L j else σ 54 j) = τ at e51 e52 e54
    have hn' : FanM τ := ⟨by rw [e51]; exact hn.1, by rw [e52]; exact hn.2⟩
    have hgN : gN τ = gN σ := by unfold gN; rw [e51]
    have hg' : GM τ := fun j => by
      rw [e54]
      have := hg j
      show 0 ≤ (if j < 5 * L + i then w54 σ L j else σ 54 j) ∧ (if j < 5 * L + i then w54 σ L j else σ 54 j) ≤ 4
      unfold w54
      split
      · split
        · rename_i q
          have q2 := q.2.2.2.2
          unfold gm at q2
          rw [show 5 * L + ((j : Int) - 5 * L).toNat = j by omega] at q2
          omega
        · omega
      · omega
    have hc : csp τ L i ↔ csp σ L i := by
      unfold csp gm
      rw [e51, e52, e54]
      simp
    refine s_X10_gapMany hn' ?_
    rw [hgN]
    refine ⟨by omega, by omega, fun h => ?_, fun h => ?_⟩
    · have e : i = gN σ := by omega
      subst e
      rw [show (5 : Nat) = gN σ + (5 - gN σ) by omega, cnt_stop out] at hp
      rw [← hτ]
      rw [show (fun j => if j < 5 * L + gN σ then w54 σ L j else σ 54 j) = w54 σ L by
        funext j
        split
        · rfl
        · unfold w54
          rw [if_neg]
          rintro ⟨q1, q2⟩
          unfold gN at *
          omega]
      exact hp
    · have t : (5 * (L : Int) + (i : Int)).toNat = 5 * L + i := by omega
      rw [t]
      have e54i : τ 54 (5 * L + i) = σ 54 (5 * L + i) := by
        rw [e54]
        show (if 5 * L + i < 5 * L + i then _ else _) = _
        rw [if_neg (by omega)]
      have up : ∀ x : Int, x = w54 σ L (5 * L + i) → up2 τ 54 (5 * L + i) x = upR σ 54 (fun j => if j < 5 * L + (i + 1) then w54 σ L j else σ 54 j) := by
        intro x hx
        rw [← hτ, up2_upR]
        congr 1
        funext j
        unfold up1
        by_cases e : j = 5 * L + i
        · rw [if_pos e, if_pos (by omega), e, hx]
        · rw [if_neg e]
          dsimp only
          by_cases e2 : j < 5 * L + i
          · rw [if_pos e2, if_pos (by omega)]
          · rw [if_neg e2, if_neg (by omega)]
      have hcs : ((5 * L + i : Nat) : Int) - 5 * L = i := by omega
      refine s_X10_canSpread hn' hg' hL (by omega) ⟨by omega, bi_rg, fun q => ⟨fun _ => ?_, fun q2 => absurd q q2⟩, fun q => ⟨fun q2 => absurd q2 q, fun _ => ?_⟩⟩
      · have q2 : ¬ csp σ L i := fun z => (bi_0.mp q) (hc.mpr z)
        refine ⟨gN σ - (i + 1), by omega, i + 1, by omega, rfl, by omega, ?_, up _ ?_⟩
        · simp only [cnt]; rw [if_neg q2]
        · rw [e54i]; unfold w54; rw [hcs, if_neg (fun z => q2 z.2)]; omega
      · have q2 : csp σ L i := hc.mp (bi_n0.mp q)
        refine ⟨gN σ - (i + 1), by omega, i + 1, by omega, rfl, by omega, ?_, up _ ?_⟩
        · simp only [cnt]; rw [if_pos q2]
        · rw [e54i]; unfold w54; rw [hcs, if_pos ⟨by omega, q2⟩]
theorem s_X10_waysMany {σ : GS} {Post : Int → Prop} (hn : FanM σ) (hp : Post (((5 ^ gN σ : Nat)) : Int)) : vc_X10_waysMany σ Post := by
  have hG := gN_le hn
  unfold vc_X10_waysMany
  refine ⟨fun n v g => ∃ i : Nat, i ≤ gN σ ∧ n = gN σ - i ∧ g = i ∧ v = ((5 ^ i : Nat) : Int), ⟨gN σ, 0, by omega, by omega, rfl, rfl⟩, ?_⟩
  rintro n v g ⟨i, h1, h2, rfl, rfl⟩
  refine s_X10_gapMany hn ⟨by omega, by omega, fun h => ?_, fun h => ⟨gN σ - (i + 1), by omega, i + 1, by omega, rfl, by omega, ?_⟩⟩
  · rw [show i = gN σ by omega]; exact hp
  · rw [Nat.pow_succ]; omega
/-- a way's figure at a gap, of G gaps -/
def dg (G w g : Nat) : Nat := w / 5 ^ (G - 1 - g) % 5
theorem dg_lt (G w g : Nat) : dg G w g < 5 := Nat.mod_lt _ (by decide)
/-- a way that may be -/
abbrev vld (kd : Nat → Int) (G w : Nat) : Prop := ∀ g, g < G → (kd g ≠ 3 ∨ dg G w g = 0)
def d54 (σ : GS) (w : Nat) : Nat → Int := fun i => if 5 ≤ i ∧ i < 5 + gN σ then (dg (gN σ) w (i - 5) : Int) else σ 54 i
theorem s_X10_layWay {σ : GS} {w : Nat} {Post : Int → GS → Prop} (hn : FanM σ) (hw : w < 5 ^ 5) (hp : Post (bi (vld (σ 52) (gN σ) w)) (upR σ 54 (d54 σ w))) : vc_X10_layWay σ w Post := by
  have hG := gN_le hn
  generalize hGe : gN σ = G at hG hp
  unfold vc_X10_layWay
  refine s_X10_gapMany hn ?_
  rw [hGe]
  refine ⟨fun n v m g σ' => ∃ j : Nat, j ≤ G ∧ n = G - j ∧ g = (G : Int) - 1 - j ∧ v = ((w / 5 ^ j : Nat) : Int) ∧ m = bi (∀ q, q < G → G - j ≤ q → (σ 52 q ≠ 3 ∨ dg G w q = 0)) ∧ σ' = upR σ 54 (fun i => if 5 + (G - j) ≤ i ∧ i < 5 + G then (dg G w (i - 5) : Int) else σ 54 i), ⟨G, 0, by omega, by omega, by omega, by simp, ?_, ?_⟩, ?_⟩
  · rw [bi_t (fun q h1 h2 => by omega)]
  · rw [show (fun i => if 5 + (G - 0) ≤ i ∧ i < 5 + G then (dg G w (i - 5) : Int) else σ 54 i) = σ 54 by funext i; rw [if_neg (by omega)]]
    exact (upR_id σ 54).symm
  · rintro n v m g σ' ⟨j, h1, h2, rfl, rfl, rfl, rfl⟩
    have hle : w / 5 ^ j ≤ w := Nat.div_le_self _ _
    refine ⟨by omega, fun h => bi_or ?_, fun h => ⟨by generalize w / 5 ^ j = d at hle ⊢; omega, by omega, ?_⟩⟩
    · have e : j = G := by omega
      subst e
      have e1 : bi (∀ q, q < j → j - j ≤ q → (σ 52 q ≠ 3 ∨ dg j w q = 0)) = bi (vld (σ 52) j w) := bi_congr ⟨fun q a b => q a b (by omega), fun q a b _ => q a b⟩
      have e2 : (fun i => if 5 + (j - j) ≤ i ∧ i < 5 + j then (dg j w (i - 5) : Int) else σ 54 i) = d54 σ w := by
        funext i
        unfold d54
        rw [hGe]
        simp
      rw [e1, e2]
      exact hp
    · obtain ⟨g, hg⟩ : ∃ g : Nat, g = G - 1 - j := ⟨_, rfl⟩
      have eg : (G : Int) - 1 - (j : Int) = (g : Int) := by omega
      have ed : ((w / 5 ^ j : Nat) : Int) % 5 = (dg G w g : Int) := by
        unfold dg
        rw [show G - 1 - g = j by omega]
        omega
      have t5 : (5 + (g : Int)).toNat = 5 + g := by omega
      rw [eg, t5, ed]
      have hdl := dg_lt G w g
      have hq : ((w / 5 ^ j : Nat) : Int) / 5 = ((w / 5 ^ (j + 1) : Nat) : Int) := by
        rw [Nat.pow_succ, ← Nat.div_div_eq_div_mul]
        omega
      have hup : up2 (upR σ 54 (fun i => if 5 + (G - j) ≤ i ∧ i < 5 + G then (dg G w (i - 5) : Int) else σ 54 i)) 54 (5 + g) (dg G w g : Int) = upR σ 54 (fun i => if 5 + (G - (j + 1)) ≤ i ∧ i < 5 + G then (dg G w (i - 5) : Int) else σ 54 i) := by
        rw [up2_upR]
        congr 1
        funext i
        unfold up1
        by_cases e : i = 5 + g
        · rw [if_pos e, if_pos (by omega), e, show 5 + g - 5 = g by omega]
        · rw [if_neg e]
          dsimp only
          by_cases e2 : 5 + (G - j) ≤ i ∧ i < 5 + G
          · rw [if_pos e2, if_pos (by omega)]
          · rw [if_neg e2, if_neg (by omega)]
      rw [hup, hq]
      have fin : ∀ x : Int, x = bi (∀ q, q < G → G - (j + 1) ≤ q → (σ 52 q ≠ 3 ∨ dg G w q = 0)) → ∃ n' : Nat, n' < n ∧ ∃ j' : Nat, j' ≤ G ∧ n' = G - j' ∧ (g : Int) + (-1) = (G : Int) - 1 - j' ∧ ((w / 5 ^ (j + 1) : Nat) : Int) = ((w / 5 ^ j' : Nat) : Int) ∧ x = bi (∀ q, q < G → G - j' ≤ q → (σ 52 q ≠ 3 ∨ dg G w q = 0)) ∧ upR σ 54 (fun i => if 5 + (G - (j + 1)) ≤ i ∧ i < 5 + G then (dg G w (i - 5) : Int) else σ 54 i) = upR σ 54 (fun i => if 5 + (G - j') ≤ i ∧ i < 5 + G then (dg G w (i - 5) : Int) else σ 54 i) := by
        intro x hx
        exact ⟨G - (j + 1), by omega, j + 1, by omega, rfl, by omega, rfl, hx, rfl⟩
      have one : (∀ q, q < G → G - (j + 1) ≤ q → (σ 52 q ≠ 3 ∨ dg G w q = 0)) ↔ (∀ q, q < G → G - j ≤ q → (σ 52 q ≠ 3 ∨ dg G w q = 0)) ∧ (σ 52 g ≠ 3 ∨ dg G w g = 0) := by
        constructor
        · intro q
          exact ⟨fun a b c => q a b (by omega), q g (by omega) (by omega)⟩
        · rintro ⟨q1, q2⟩ a b c
          by_cases e : a = g
          · rw [e]; exact q2
          · exact q1 a b (by omega)
      refine bi_eq (fun q => fin 0 ?_) (fun q => ?_)
      · rw [bi_f (fun z => q (one.mp z).1)]
      · have e52 : upR σ 54 (fun i => if 5 + (G - (j + 1)) ≤ i ∧ i < 5 + G then (dg G w (i - 5) : Int) else σ 54 i) 52 = σ 52 := upR_n _ _ (by decide)
        have e51 : upR σ 54 (fun i => if 5 + (G - (j + 1)) ≤ i ∧ i < 5 + G then (dg G w (i - 5) : Int) else σ 54 i) 51 = σ 51 := upR_n _ _ (by decide)
        refine s_X10_isFree ⟨by rw [e51]; exact hn.1, by rw [e52]; exact hn.2⟩ (by omega) ?_
        rw [e52, Int.toNat_natCast]
        refine bi_ne (fun q2 => fin 1 ?_) (fun q2 => ⟨by omega, fun q3 => fin 0 ?_, fun q3 => fin 1 ?_⟩)
        · rw [bi_t (one.mpr ⟨q, Or.inl q2⟩)]
        · rw [bi_f]
          intro z
          rcases (one.mp z).2 with z | z
          · exact q2 z
          · exact q3 (by omega)
        · rw [bi_t (one.mpr ⟨q, Or.inr (by omega)⟩)]
theorem s_X10_timesSeen {σ : GS} {v : Int} {Post : Int → Prop} (hn : FanM σ) (hg : GM σ) (hlt : LtM σ) (hv : rg v) (hp : Post (cnt (fun p => lM σ 1 63 0 p = v) 28)) : vc_X10_timesSeen σ v Post := by
  unfold vc_X10_timesSeen
  refine ⟨fun n c p => ∃ i : Nat, i ≤ 28 ∧ n = 28 - i ∧ p = i ∧ c = cnt (fun p => lM σ 1 63 0 p = v) i, ⟨28, 0, by omega, by omega, rfl, rfl⟩, ?_⟩
  rintro n c p ⟨i, h1, h2, rfl, rfl⟩
  have hs := lM_rg (L := 1) (set := 63) (side := 0) (p := i) hlt
  refine ⟨by omega, fun hz => ?_, fun hz => s_X10_letterAt (L := 1) hn hg (by omega) (by omega) (by omega) (Or.inl rfl) ⟨by omega, hv, fun q => ⟨28 - (i + 1), by omega, i + 1, by omega, rfl, by omega, ?_⟩, fun q => ⟨28 - (i + 1), by omega, i + 1, by omega, rfl, by omega, ?_⟩⟩⟩
  · rw [show i = 28 by omega]; exact hp
  · simp only [cnt]; rw [if_neg q]
  · simp only [cnt]; rw [if_pos q]
def SpM (σ : GS) : Prop := (0 ≤ σ 51 14 ∧ σ 51 14 ≤ 6) ∧ ∀ i, (0 ≤ σ 60 i ∧ σ 60 i ≤ 27) ∧ (0 ≤ σ 61 i ∧ σ 61 i ≤ 25) ∧ (0 ≤ σ 62 i ∧ σ 62 i ≤ 1)
/-- all that is spied is so -/
abbrev spd (lt : Int → Int) (at_ le se : Nat → Int) (n : Nat) : Prop := ∀ k, k < n → (lt (at_ k) = le k ↔ se k = 1)
theorem spd_s {lt : Int → Int} {at_ le se : Nat → Int} {n : Nat} : spd lt at_ le se (n + 1) ↔ spd lt at_ le se n ∧ (lt (at_ n) = le n ↔ se n = 1) := by
  constructor
  · intro h
    exact ⟨fun k hk => h k (by omega), h n (by omega)⟩
  · rintro ⟨h1, h2⟩ k hk
    by_cases e : k = n
    · rw [e]; exact h2
    · exact h1 k (by omega)
theorem s_X10_mayBe {σ : GS} {Post : Int → Prop} (hn : FanM σ) (hg : GM σ) (hlt : LtM σ) (hs : SpM σ) (hp : Post (bi (spd (lM σ 1 63 0) (σ 60) (σ 61) (σ 62) (σ 51 14).toNat))) : vc_X10_mayBe σ Post := by
  have h1 := hs.1
  obtain ⟨m, hm⟩ := Int.eq_ofNat_of_zero_le h1.1
  have em : (σ 51 14).toNat = m := by omega
  rw [em] at hp
  unfold vc_X10_mayBe
  refine ⟨fun n v g => ∃ i : Nat, i ≤ m ∧ n = m - i ∧ g = i ∧ v = bi (spd (lM σ 1 63 0) (σ 60) (σ 61) (σ 62) i), ⟨m, 0, by omega, by omega, rfl, (bi_t (fun k hk => absurd hk (Nat.not_lt_zero k))).symm⟩, ?_⟩
  rintro n v g ⟨i, q1, q2, rfl, rfl⟩
  have a := hs.2 i
  have fin : ∀ x : Int, i < m → x = bi (spd (lM σ 1 63 0) (σ 60) (σ 61) (σ 62) (i + 1)) → ∃ n' : Nat, n' < n ∧ ∃ i' : Nat, i' ≤ m ∧ n' = m - i' ∧ (i : Int) + 1 = i' ∧ x = bi (spd (lM σ 1 63 0) (σ 60) (σ 61) (σ 62) i') := fun x hi hx => ⟨m - (i + 1), by omega, i + 1, by omega, rfl, by omega, hx⟩
  refine ⟨by omega, by omega, fun hz => bi_or ?_, fun hz => bi_eq (fun q => fin 0 (by omega) ?_) (fun q => ⟨by omega, ?_⟩)⟩
  · rw [show i = m by omega]; exact hp
  · rw [bi_f (fun z => q (spd_s.mp z).1)]
  · rw [Int.toNat_natCast]
    have hl := lM_rg (L := 1) (set := 63) (side := 0) (p := σ 60 i) hlt
    have hi : i < m := by omega
    refine s_X10_letterAt (L := 1) hn hg (by omega) (by omega) (by omega) (Or.inl rfl) ⟨by omega, by omega, fun q3 => ⟨by omega, fun q4 => ⟨fun z => absurd rfl z, fun _ => fin 1 hi ?_⟩, fun q4 => ⟨fun _ => fin 0 hi ?_, fun z => absurd z (by decide)⟩⟩, fun q3 => ⟨by omega, fun q4 => ⟨fun _ => fin 0 hi ?_, fun z => absurd z (by decide)⟩, fun q4 => ⟨fun z => absurd rfl z, fun _ => fin 1 hi ?_⟩⟩⟩
    · rw [bi_t (spd_s.mpr ⟨q, ⟨fun z => absurd z q3, fun z => absurd z q4⟩⟩)]
    · rw [bi_f (fun z => q3 ((spd_s.mp z).2.mpr q4))]
    · rw [bi_f (fun z => q4 ((spd_s.mp z).2.mp q3))]
    · rw [bi_t (spd_s.mpr ⟨q, ⟨fun _ => q4, fun _ => q3⟩⟩)]
