/-! ===== the reference's readers ===== -/
theorem lc_lt {a b : Int} (ha : rgL a) (hb : rgL b) : lc a b < 0 ↔ a < b := by
  rw [lc_of ⟨ha, hb⟩]
  split
  · omega
  · split <;> omega
theorem lc_gt {a b : Int} (ha : rgL a) (hb : rgL b) : 0 < lc a b ↔ b < a := by
  rw [lc_of ⟨ha, hb⟩]
  split
  · omega
  · split <;> omega
theorem lc_ge {a b : Int} (ha : rgL a) (hb : rgL b) : 0 ≤ lc a b ↔ b ≤ a := by
  rw [lc_of ⟨ha, hb⟩]
  split
  · omega
  · split <;> omega
theorem lc_le {a b : Int} (ha : rgL a) (hb : rgL b) : lc a b ≤ 0 ↔ a ≤ b := by
  rw [lc_of ⟨ha, hb⟩]
  split
  · omega
  · split <;> omega
theorem lc_rg (a b : Int) : rg (lc a b) := by
  unfold lc
  split
  · decide
  · split <;> decide
theorem s_X10_in {σ : GS} {a b c : Int} {Post : Int → Prop} (ha : rgL a) (hb : rgL b) (hc : rgL c) (hp : Post (bi (b ≤ a ∧ a ≤ c))) : vc_X10_in σ a b c Post := by
  unfold vc_X10_in
  rw [lc_lt ha hb, lc_gt ha hc]
  exact ⟨lc_rg _ _, fun h => pf (by omega) hp, fun h => ⟨lc_rg _ _, fun h2 => pf (by omega) hp, fun h2 => pt (by omega) hp⟩⟩
theorem bi_or {p : Prop} [Decidable p] {A : Prop} (h : A) : (bi p = 0 ∨ bi p = 1) ∧ A := ⟨bi_01, h⟩
theorem pc {Post : Int → Prop} {p q : Prop} [Decidable p] [Decidable q] (hp : Post (bi p)) (h : p ↔ q) : Post (bi q) := by rw [← bi_congr h]; exact hp
def FanM (σ : GS) : Prop := (0 ≤ σ 51 0 ∧ σ 51 0 ≤ 6) ∧ ∀ i, 0 ≤ σ 52 i ∧ σ 52 i ≤ 3
theorem s_X10_isBlade {σ : GS} {a : Int} {Post : Int → Prop} (hn : FanM σ) (ha : rg a) (hp : Post (bi (0 ≤ a ∧ a < σ 51 0))) : vc_X10_isBlade σ a Post := by
  have h0 := hn.1
  unfold vc_X10_isBlade
  exact ⟨ha, by omega, s_X10_in (by omega) (by omega) (by omega) (bi_or (pc hp (by omega)))⟩
/-- how many gaps -/
abbrev gN (σ : GS) : Nat := (σ 51 0 - 1).toNat
theorem s_X10_gapMany {σ : GS} {Post : Int → Prop} (hn : FanM σ) (hp : Post (gN σ : Int)) : vc_X10_gapMany σ Post := by
  have h0 := hn.1
  unfold vc_X10_gapMany
  refine ⟨by omega, fun h => ?_, fun h => ?_⟩
  · rw [show ((gN σ : Nat) : Int) = σ 51 0 - 1 by unfold gN; omega] at hp; exact hp
  · rw [show ((gN σ : Nat) : Int) = 0 by unfold gN; omega] at hp; exact hp
theorem gN_le {σ : GS} (hn : FanM σ) : gN σ ≤ 5 := by have := hn.1; unfold gN; omega
theorem s_X10_isGap {σ : GS} {a : Int} {Post : Int → Prop} (hn : FanM σ) (ha : rg a) (hp : Post (bi (0 ≤ a ∧ a < σ 51 0 - 1))) : vc_X10_isGap σ a Post := by
  have h0 := hn.1
  unfold vc_X10_isGap
  exact ⟨ha, s_X10_gapMany hn ⟨by unfold gN; omega, s_X10_in (by omega) (by omega) (by unfold gN; omega) (bi_or (pc hp (by unfold gN; omega)))⟩⟩
theorem s_X10_isFree {σ : GS} {a : Int} {Post : Int → Prop} (hn : FanM σ) (ha : 0 ≤ a ∧ a < 6) (hp : Post (bi (σ 52 a.toNat ≠ 3))) : vc_X10_isFree σ a Post := by
  have h1 := hn.2 a.toNat
  unfold vc_X10_isFree
  exact ⟨ha, by omega, fun h => pf (by omega) hp, fun h => pt (by omega) hp⟩
theorem s_X10_has {σ : GS} {a : Int} {b : Nat} {Post : Int → Prop} (ha : 0 ≤ a ∧ a ≤ 63) (hb : b < 6) (hp : Post (bi (hs a b))) : vc_X10_has σ a b Post := by
  unfold vc_X10_has
  rw [Int.toNat_natCast]
  have b1 := Int.emod_nonneg (a / 2 ^ b) (b := 2) (by decide)
  have b2 := Int.emod_lt_of_pos (a / 2 ^ b) (b := 2) (by decide)
  exact ⟨by omega, by omega, fun h => pf h hp, fun h => pt h hp⟩
/-- the gaps at a level -/
def gm (σ : GS) (L : Nat) : Nat → Int := fun g => σ 54 (5 * L + g)
theorem s_X10_beginOf {σ : GS} {L b : Nat} {Post : Int → Prop} (hL : L ≤ 1) (hb : b ≤ 5) (hp : Post (sm (gm σ L) b)) : vc_X10_beginOf σ L b Post := by
  unfold vc_X10_beginOf
  refine ⟨fun n v g => ∃ i : Nat, i ≤ b ∧ n = b - i ∧ g = i ∧ v = sm (gm σ L) i, ⟨b, 0, by omega, by omega, rfl, rfl⟩, ?_⟩
  rintro n v g ⟨i, h1, h2, rfl, rfl⟩
  refine ⟨by omega, by omega, fun h => ?_, fun h => ⟨by omega, b - (i + 1), by omega, i + 1, by omega, rfl, by omega, ?_⟩⟩
  · rw [show i = b by omega]; exact hp
  · rw [show (5 * (L : Int) + (i : Int)).toNat = 5 * L + i by omega]
    rfl
theorem s_X10_wideOf {σ : GS} {b : Nat} {Post : Int → Prop} (hn : FanM σ) (hb : b < 6) (hp : Post (if σ 52 b = 2 then 2 else 4)) : vc_X10_wideOf σ b Post := by
  have h1 := hn.2 b
  unfold vc_X10_wideOf
  rw [Int.toNat_natCast]
  refine ⟨by omega, by omega, fun h => ?_, fun h => ?_⟩
  · rw [if_neg h] at hp; exact hp
  · rw [if_pos h] at hp; exact hp
def GM (σ : GS) : Prop := ∀ i, 0 ≤ σ 54 i ∧ σ 54 i ≤ 4
theorem gm_rg {σ : GS} (h : GM σ) (L : Nat) : ∀ i, 0 ≤ gm σ L i ∧ gm σ L i ≤ 4 := fun i => h _
theorem s_X10_cellAt {σ : GS} {L b : Nat} {p : Int} {Post : Int → Prop} (hn : FanM σ) (hg : GM σ) (hL : L ≤ 1) (hb : b ≤ 5) (hp0 : -100 ≤ p ∧ p ≤ 100) (hp : Post (if sol (σ 52 b) (p - sm (gm σ L) b) then p - sm (gm σ L) b else -9)) : vc_X10_cellAt σ L b p Post := by
  have h1 := hn.2 b
  have hs := sm_rg (gm_rg hg L) b
  unfold vc_X10_cellAt
  refine s_X10_beginOf hL hb ⟨by omega, s_X10_wideOf hn (by omega) ?_⟩
  rw [Int.toNat_natCast]
  refine ⟨by split <;> omega, s_X10_in (by omega) (by omega) (by split <;> omega) (bi_eq (fun q => ?_) (fun q => ⟨by omega, by omega, fun q2 => ?_, fun q2 => ⟨by omega, by omega, fun q3 => ?_, fun q3 => ?_⟩⟩))⟩
  · rw [if_neg (fun z => q (by split <;> omega))] at hp; exact hp
  · rw [if_pos (by split at q <;> omega)] at hp; exact hp
  · rw [if_pos (by split at q <;> omega)] at hp; exact hp
  · rw [if_neg (by omega)] at hp; exact hp
theorem seen_b_none {side set : Int} {kd gp : Nat → Int} {p : Int} : ∀ {m : Nat}, (∀ b, b < m → ¬ (hs set b ∧ sol (kd b) (p - sm gp b))) → seen side set kd gp p m = -9
  | 0, _ => rfl
  | b + 1, h => by
    simp only [seen]
    rw [if_neg (fun q => h b (by omega) q.1), seen_b_none (fun c hc => h c (by omega))]
theorem seen_b_at {side set : Int} {kd gp : Nat → Int} {p : Int} (hs0 : ¬ side = 0) {b : Nat} (hb : hs set b ∧ sol (kd b) (p - sm gp b)) (h : ∀ c, c < b → ¬ (hs set c ∧ sol (kd c) (p - sm gp c))) : ∀ n : Nat, seen side set kd gp p (b + 1 + n) = b
  | 0 => by
    show seen side set kd gp p (b + 1) = b
    simp only [seen]
    rw [if_pos ⟨hb, Or.inr (by rw [seen_b_none h]; omega)⟩]
  | n + 1 => by
    show seen side set kd gp p (b + 1 + n + 1) = b
    simp only [seen]
    rw [if_neg (by rw [seen_b_at hs0 hb h n]; omega), seen_b_at hs0 hb h n]
/-- the blade that the reference sees -/
abbrev sM (σ : GS) (L : Nat) (set side p : Int) : Int := seen side set (σ 52) (gm σ L) p (σ 51 0).toNat
theorem s_X10_bladeAt {σ : GS} {L : Nat} {set side p : Int} {Post : Int → Prop} (hn : FanM σ) (hg : GM σ) (hL : L ≤ 1) (hset : 0 ≤ set ∧ set ≤ 63) (hp0 : -100 ≤ p ∧ p ≤ 100) (hside : side = 0 ∨ side = 1) (hp : Post (sM σ L set side p)) : vc_X10_bladeAt σ L set p side Post := by
  have h0 := hn.1
  obtain ⟨N, hN⟩ := Int.eq_ofNat_of_zero_le h0.1
  have eN : (σ 51 0).toNat = N := by omega
  have cell9 : ∀ b : Nat, b < 6 → ((if sol (σ 52 b) (p - sm (gm σ L) b) then p - sm (gm σ L) b else -9) = -9 ↔ ¬ sol (σ 52 b) (p - sm (gm σ L) b)) ∧ rg (if sol (σ 52 b) (p - sm (gm σ L) b) then p - sm (gm σ L) b else -9) := by
    intro b hb
    split
    · rename_i q
      exact ⟨⟨fun z => by omega, fun z => absurd q z⟩, by omega⟩
    · rename_i q
      exact ⟨⟨fun _ => q, fun _ => rfl⟩, by decide⟩
  unfold sM at hp
  rw [eN] at hp
  unfold vc_X10_bladeAt
  rcases hside with rfl | rfl
  · refine ⟨fun n v g => ∃ i : Nat, i ≤ N ∧ n = N - i ∧ g = i ∧ v = seen 0 set (σ 52) (gm σ L) p i, ⟨N, 0, by omega, by omega, rfl, rfl⟩, ?_⟩
    rintro n v g ⟨i, h1, h2, rfl, rfl⟩
    refine ⟨by omega, by omega, fun h => ?_, fun h => ⟨by decide, fun z => absurd rfl z, fun _ => s_X10_has hset (by omega) (bi_eq (fun q => ⟨N - (i + 1), by omega, i + 1, by omega, rfl, by omega, ?_⟩) (fun q => s_X10_cellAt hn hg hL (by omega) hp0 ⟨(cell9 i (by omega)).2, fun q2 => ⟨N - (i + 1), by omega, i + 1, by omega, rfl, by omega, ?_⟩, fun q2 => ⟨N - (i + 1), by omega, i + 1, by omega, rfl, by omega, ?_⟩⟩))⟩⟩
    · rw [show i = N by omega]; exact hp
    · simp only [seen]
      rw [if_neg (fun z => q z.1.1)]
    · simp only [seen]
      rw [if_neg (fun z => (cell9 i (by omega)).1.mp q2 z.1.2)]
    · simp only [seen]
      rw [if_pos ⟨⟨q, by
        rw [(cell9 i (by omega)).1] at q2
        exact Decidable.not_not.mp q2⟩, Or.inl trivial⟩]
  · refine ⟨fun n v g => ∃ i : Nat, i ≤ N ∧ n = N - i ∧ g = i ∧ ((v = -9 ∧ ∀ b, N - i ≤ b → b < N → ¬ (hs set b ∧ sol (σ 52 b) (p - sm (gm σ L) b))) ∨ ∃ b : Nat, v = b ∧ N - i ≤ b ∧ b < N ∧ (hs set b ∧ sol (σ 52 b) (p - sm (gm σ L) b)) ∧ ∀ c, N - i ≤ c → c < b → ¬ (hs set c ∧ sol (σ 52 c) (p - sm (gm σ L) c))), ⟨N, 0, by omega, by omega, rfl, Or.inl ⟨rfl, fun b h1 h2 => by omega⟩⟩, ?_⟩
    rintro n v g ⟨i, h1, h2, rfl, h3⟩
    have keep : ∀ b' : Nat, b' = N - (i + 1) → ¬ (hs set b' ∧ sol (σ 52 b') (p - sm (gm σ L) b')) → i < N → ((v = -9 ∧ ∀ b, N - (i + 1) ≤ b → b < N → ¬ (hs set b ∧ sol (σ 52 b) (p - sm (gm σ L) b))) ∨ ∃ b : Nat, v = b ∧ N - (i + 1) ≤ b ∧ b < N ∧ (hs set b ∧ sol (σ 52 b) (p - sm (gm σ L) b)) ∧ ∀ c, N - (i + 1) ≤ c → c < b → ¬ (hs set c ∧ sol (σ 52 c) (p - sm (gm σ L) c))) := by
      intro b' e q hi
      rcases h3 with ⟨h3, h4⟩ | ⟨b, h3, h4, h5, h6, h7⟩
      · refine Or.inl ⟨h3, fun b q1 q2 => ?_⟩
        by_cases e2 : b = b'
        · rw [e2]; exact q
        · exact h4 b (by omega) q2
      · refine Or.inr ⟨b, h3, by omega, h5, h6, fun c q1 q2 => ?_⟩
        by_cases e2 : c = b'
        · rw [e2]; exact q
        · exact h7 c (by omega) q2
    refine ⟨by omega, by omega, fun h => ?_, fun h => ⟨by decide, fun _ => ?_, fun z => absurd z (by decide)⟩⟩
    · have e : i = N := by omega
      subst e
      rcases h3 with ⟨h3, h4⟩ | ⟨b, h3, h4, h5, h6, h7⟩
      · rw [seen_b_none (fun b q => h4 b (by omega) q)] at hp
        rw [h3]
        exact hp
      · rw [show i = b + 1 + (i - (b + 1)) by omega, seen_b_at (by decide) h6 (fun c q => h7 c (by omega) q) (i - (b + 1))] at hp
        rw [h3]
        exact hp
    · clear h3
      obtain ⟨b', hb'⟩ : ∃ b' : Nat, b' = N - (i + 1) := ⟨_, rfl⟩
      have eb : σ 51 0 - 1 - (i : Int) = (b' : Int) := by omega
      rw [eb]
      have hb6 : b' < 6 := by omega
      have hiN : i < N := by omega
      refine s_X10_has hset hb6 (bi_eq (fun q => ⟨N - (i + 1), by omega, i + 1, by omega, rfl, by omega, keep b' hb' (fun z => q z.1) hiN⟩) (fun q => s_X10_cellAt hn hg hL (Nat.le_of_lt_succ hb6) hp0 ⟨(cell9 b' hb6).2, fun q2 => ⟨N - (i + 1), by omega, i + 1, by omega, rfl, by omega, keep b' hb' (fun z => (cell9 b' hb6).1.mp q2 z.2) hiN⟩, fun q2 => ⟨N - (i + 1), by omega, i + 1, by omega, rfl, by omega, Or.inr ⟨b', rfl, by omega, by omega, ⟨q, ?_⟩, fun c q3 q4 => by omega⟩⟩⟩))
      rw [(cell9 b' hb6).1] at q2
      exact Decidable.not_not.mp q2
/-- the letter that the reference sees -/
abbrev lM (σ : GS) (L : Nat) (set side p : Int) : Int := ltr side set (σ 52) (gm σ L) (σ 53) (σ 51 0).toNat p
def LtM (σ : GS) : Prop := ∀ i, 0 ≤ σ 53 i ∧ σ 53 i ≤ 25
theorem lM_rg {σ : GS} {L : Nat} {set side p : Int} (h : LtM σ) : -9 ≤ lM σ L set side p ∧ lM σ L set side p ≤ 25 := by
  unfold lM ltr
  split
  · decide
  · have := h (mkv side set (σ 52) (gm σ L) (σ 51 0).toNat p).toNat
    omega
theorem s_X10_letterAt {σ : GS} {L : Nat} {set side p : Int} {Post : Int → Prop} (hn : FanM σ) (hg : GM σ) (hL : L ≤ 1) (hset : 0 ≤ set ∧ set ≤ 63) (hp0 : -100 ≤ p ∧ p ≤ 100) (hside : side = 0 ∨ side = 1) (hp : Post (lM σ L set side p)) : vc_X10_letterAt σ L set p side Post := by
  have h0 := hn.1
  have hgm := gm_rg hg L
  have hr := rch_rg hgm (n := (σ 51 0).toNat) (by omega)
  unfold vc_X10_letterAt
  refine ⟨by omega, s_X10_in (by omega) (by omega) (by omega) (bi_eq (fun q => ⟨fun z => absurd rfl z, fun _ => ?_⟩) (fun q => s_X10_bladeAt hn hg hL hset hp0 hside ?_))⟩
  · by_cases h : p < 0
    · unfold lM at hp
      rw [ltr_neg (seen_neg (fun k => (hgm k).1) h)] at hp
      exact hp
    · unfold lM at hp
      rw [ltr_neg (seen_rch hgm (by omega))] at hp
      exact hp
  · rcases seen_rg side set (σ 52) (gm σ L) p (σ 51 0).toNat with z | ⟨z1, z2, z3⟩
    · unfold sM
      unfold lM at hp
      rw [ltr_neg z] at hp
      rw [z]
      exact ⟨by decide, fun q2 => absurd rfl q2, fun _ => hp⟩
    · refine ⟨by unfold sM; omega, fun q2 => ?_, fun q2 => by unfold sM at q2; omega⟩
      obtain ⟨b, hb⟩ := Int.eq_ofNat_of_zero_le z1
      unfold lM ltr mkv at hp
      unfold sM
      rw [hb] at z3 hp ⊢
      rw [Int.toNat_natCast] at z3 hp
      rw [if_neg (by omega), if_neg (by omega)] at hp
      refine s_X10_cellAt hn hg hL (by omega) hp0 ?_
      rw [if_pos z3]
      have c1 := z3.1
      have c2 := z3.2.1
      refine ⟨by omega, ?_⟩
      rw [show 8 * (b : Int) + 4 * side + (p - sm (gm σ L) b) = (b : Int) * 8 + side * 4 + (p - sm (gm σ L) b) by omega]
      exact hp
theorem s_X10_cellsSeen {σ : GS} {L : Nat} {side b : Int} {Post : Int → Prop} (hn : FanM σ) (hg : GM σ) (hL : L ≤ 1) (hside : side = 0 ∨ side = 1) (hb : rg b) (hp : Post (cnt (fun p => sM σ L 63 side p = b) 28)) : vc_X10_cellsSeen σ L b side Post := by
  have h0 := hn.1
  unfold vc_X10_cellsSeen
  refine ⟨fun n v p => ∃ i : Nat, i ≤ 28 ∧ n = 28 - i ∧ p = i ∧ v = cnt (fun p => sM σ L 63 side p = b) i, ⟨28, 0, by omega, by omega, rfl, rfl⟩, ?_⟩
  rintro n v p ⟨i, h1, h2, rfl, rfl⟩
  have hs := seen_rg side 63 (σ 52) (gm σ L) i (σ 51 0).toNat
  refine ⟨by omega, fun hz => ?_, fun hz => s_X10_bladeAt hn hg hL (by omega) (by omega) hside ⟨by unfold sM; omega, hb, fun q => ⟨28 - (i + 1), by omega, i + 1, by omega, rfl, by omega, ?_⟩, fun q => ⟨28 - (i + 1), by omega, i + 1, by omega, rfl, by omega, ?_⟩⟩⟩
  · rw [show i = 28 by omega]; exact hp
  · simp only [cnt]; rw [if_neg q]
  · simp only [cnt]; rw [if_pos q]
theorem s_X10_wide {σ : GS} {L : Nat} {Post : Int → Prop} (hn : FanM σ) (hg : GM σ) (hL : L ≤ 1) (hp : Post (lst (fun p => 0 ≤ sM σ L 63 0 p) 28)) : vc_X10_wide σ L Post := by
  have h0 := hn.1
  unfold vc_X10_wide
  refine ⟨fun n v p => ∃ i : Nat, i ≤ 28 ∧ n = 28 - i ∧ p = i ∧ v = lst (fun p => 0 ≤ sM σ L 63 0 p) i, ⟨28, 0, by omega, by omega, rfl, rfl⟩, ?_⟩
  rintro n v p ⟨i, h1, h2, rfl, rfl⟩
  have hs := seen_rg 0 63 (σ 52) (gm σ L) i (σ 51 0).toNat
  refine ⟨by omega, fun hz => ?_, fun hz => s_X10_bladeAt hn hg hL (by omega) (by omega) (Or.inl rfl) ⟨by unfold sM; omega, fun q => ⟨28 - (i + 1), by omega, i + 1, by omega, rfl, by omega, ?_⟩, fun q => ⟨28 - (i + 1), by omega, i + 1, by omega, rfl, by omega, ?_⟩⟩⟩
  · rw [show i = 28 by omega]; exact hp
  · simp only [lst]; rw [if_pos (by unfold sM at q ⊢; omega)]
  · simp only [lst]; rw [if_neg (by unfold sM at q ⊢; omega)]
theorem s_X10_placesSeen {σ : GS} {L : Nat} {set : Int} {Post : Int → Prop} (hn : FanM σ) (hg : GM σ) (hL : L ≤ 1) (hset : 0 ≤ set ∧ set ≤ 63) (hp : Post (cnt (fun p => 0 ≤ sM σ L set 0 p) 28)) : vc_X10_placesSeen σ L set Post := by
  have h0 := hn.1
  unfold vc_X10_placesSeen
  refine ⟨fun n v p => ∃ i : Nat, i ≤ 28 ∧ n = 28 - i ∧ p = i ∧ v = cnt (fun p => 0 ≤ sM σ L set 0 p) i, ⟨28, 0, by omega, by omega, rfl, rfl⟩, ?_⟩
  rintro n v p ⟨i, h1, h2, rfl, rfl⟩
  have hs := seen_rg 0 set (σ 52) (gm σ L) i (σ 51 0).toNat
  refine ⟨by omega, fun hz => ?_, fun hz => s_X10_bladeAt hn hg hL hset (by omega) (Or.inl rfl) ⟨by unfold sM; omega, fun q => ⟨28 - (i + 1), by omega, i + 1, by omega, rfl, by omega, ?_⟩, fun q => ⟨28 - (i + 1), by omega, i + 1, by omega, rfl, by omega, ?_⟩⟩⟩
  · rw [show i = 28 by omega]; exact hp
  · simp only [cnt]; rw [if_pos (by unfold sM at q ⊢; omega)]
  · simp only [cnt]; rw [if_neg (by unfold sM at q ⊢; omega)]
def WordM (σ : GS) : Prop := (0 ≤ σ 51 9 ∧ σ 51 9 ≤ 5) ∧ ∀ i, 0 ≤ σ 58 i ∧ σ 58 i ≤ 25
theorem s_X10_isReadAt {σ : GS} {L : Nat} {set side a : Int} {Post : Int → Prop} (hn : FanM σ) (hg : GM σ) (hlt : LtM σ) (hw : WordM σ) (hL : L ≤ 1) (hset : 0 ≤ set ∧ set ≤ 63) (hside : side = 0 ∨ side = 1) (ha : 0 ≤ a ∧ a ≤ 28) (hp : Post (bi (ra (lM σ L set side) (σ 58) (σ 51 9).toNat (if side = 0 then 1 else -1) a))) : vc_X10_isReadAt σ L set side a Post := by
  have h1 := hw.1
  obtain ⟨m, hm⟩ := Int.eq_ofNat_of_zero_le h1.1
  have em : (σ 51 9).toNat = m := by omega
  rw [em] at hp
  unfold vc_X10_isReadAt
  refine ⟨fun n v g => ∃ i : Nat, i ≤ m ∧ n = m - i ∧ g = i ∧ v = bi (ra (lM σ L set side) (σ 58) i (if side = 0 then 1 else -1) a), ⟨m, 0, by omega, by omega, rfl, (bi_t (fun k hk => absurd hk (Nat.not_lt_zero k))).symm⟩, ?_⟩
  rintro n v g ⟨i, q1, q2, rfl, rfl⟩
  have hw2 := hw.2 i
  have stop : ¬ ra (lM σ L set side) (σ 58) i (if side = 0 then 1 else -1) a → i ≤ m → bi (ra (lM σ L set side) (σ 58) i (if side = 0 then 1 else -1) a) = bi (ra (lM σ L set side) (σ 58) m (if side = 0 then 1 else -1) a) := by
    intro q hi
    rw [bi_f q, bi_f (fun z => q (fun k hk => z k (by omega)))]
  refine ⟨by omega, by omega, fun hz => bi_or ?_, fun hz => bi_eq (fun q => bi_or ?_) (fun q => ⟨by omega, fun hs => ?_, fun hs => ?_⟩)⟩
  · rw [show i = m by omega]; exact hp
  · rw [stop q (by omega)]; exact hp
  · refine s_X10_letterAt hn hg hL hset (by omega) hside ⟨by omega, by have := lM_rg (L := L) (set := set) (side := side) (p := a - i) hlt; omega, by rw [Int.toNat_natCast]; omega, fun q3 => ⟨m - (i + 1), by omega, i + 1, by omega, rfl, by omega, ?_⟩, fun q3 => ⟨m - (i + 1), by omega, i + 1, by omega, rfl, by omega, ?_⟩⟩
    · rw [bi_f]
      rw [ra_dn, if_neg hs, show a + (i : Int) * -1 = a - i by omega]
      rw [Int.toNat_natCast] at q3
      exact fun z => q3 z.2
    · rw [bi_t]
      rw [if_neg hs] at q
      rw [ra_dn, if_neg hs, show a + (i : Int) * -1 = a - i by omega]
      rw [Int.toNat_natCast] at q3
      exact ⟨q, q3⟩
  · refine s_X10_letterAt hn hg hL hset (by omega) hside ⟨by omega, by have := lM_rg (L := L) (set := set) (side := side) (p := a + i) hlt; omega, by rw [Int.toNat_natCast]; omega, fun q3 => ⟨m - (i + 1), by omega, i + 1, by omega, rfl, by omega, ?_⟩, fun q3 => ⟨m - (i + 1), by omega, i + 1, by omega, rfl, by omega, ?_⟩⟩
    · rw [bi_f]
      rw [ra_dn, if_pos hs, show a + (i : Int) * 1 = a + i by omega]
      rw [Int.toNat_natCast] at q3
      exact fun z => q3 z.2
    · rw [bi_t]
      rw [if_pos hs] at q
      rw [ra_dn, if_pos hs, show a + (i : Int) * 1 = a + i by omega]
      rw [Int.toNat_natCast] at q3
      exact ⟨q, q3⟩
theorem s_X10_readsOn {σ : GS} {L : Nat} {set side : Int} {Post : Int → Prop} (hn : FanM σ) (hg : GM σ) (hlt : LtM σ) (hw : WordM σ) (hL : L ≤ 1) (hset : 0 ≤ set ∧ set ≤ 63) (hside : side = 0 ∨ side = 1) (hp : Post (rd side (lM σ L set side) (σ 58) (σ 51 9).toNat)) : vc_X10_readsOn σ L set side Post := by
  have h1 := hw.1
  unfold vc_X10_readsOn
  refine ⟨by omega, fun hz => ?_, fun hz => ?_⟩
  · unfold rd at hp
    rw [if_neg (by omega)] at hp
    refine ⟨fun n g => ∃ i : Nat, i ≤ 28 ∧ n = 28 - i ∧ g = i ∧ ((side = 0 ∧ ∀ j : Nat, j < i → ¬ ra (lM σ L set side) (σ 58) (σ 51 9).toNat 1 j) ∨ (¬ side = 0 ∧ ∀ j : Nat, 28 - i ≤ j → j < 28 → ¬ ra (lM σ L set side) (σ 58) (σ 51 9).toNat (-1) j)), ⟨28, 0, by omega, by omega, rfl, ?_⟩, ?_⟩
    · by_cases hs : side = 0
      · exact Or.inl ⟨hs, fun j hj => absurd hj (Nat.not_lt_zero j)⟩
      · exact Or.inr ⟨hs, fun j h1 h2 => by omega⟩
    · rintro n g ⟨i, q1, q2, rfl, q3⟩
      refine ⟨by omega, fun hz2 => ?_, fun hz2 => ⟨by omega, fun hs => ?_, fun hs => ?_⟩⟩
      · have e : i = 28 := by omega
        subst e
        rcases q3 with ⟨hs, q3⟩ | ⟨hs, q3⟩
        · rw [if_pos hs, fnd_none q3] at hp
          exact hp
        · rw [if_neg hs, fndL_none (fun k hk => q3 k (by omega) hk)] at hp
          exact hp
      · have q3 : ∀ j : Nat, 28 - i ≤ j → j < 28 → ¬ ra (lM σ L set side) (σ 58) (σ 51 9).toNat (-1) j := by
          rcases q3 with ⟨h9, -⟩ | ⟨-, q3⟩
          · exact absurd h9 hs
          · exact q3
        obtain ⟨P, hP⟩ := Int.eq_ofNat_of_zero_le (show 0 ≤ 27 - (i : Int) by omega)
        rw [hP]
        refine s_X10_isReadAt hn hg hlt hw hL hset hside (by omega) ?_
        rw [if_neg hs] at hp ⊢
        refine bi_eq (fun q => ⟨28 - (i + 1), by omega, i + 1, by omega, rfl, by omega, Or.inr ⟨hs, fun j h1 h2 => ?_⟩⟩) (fun q => ?_)
        · by_cases e : j = P
          · rw [e]; exact q
          · exact q3 j (by omega) h2
        · rw [show (28 : Nat) = P + 1 + (27 - P) by omega, fndL_at q (27 - P) (fun j h1 h2 => q3 j (by omega) (by omega))] at hp
          exact hp
      · have q3 : ∀ j : Nat, j < i → ¬ ra (lM σ L set side) (σ 58) (σ 51 9).toNat 1 j := by
          rcases q3 with ⟨-, q3⟩ | ⟨h9, -⟩
          · exact q3
          · exact absurd hs h9
        refine s_X10_isReadAt hn hg hlt hw hL hset hside (by omega) ?_
        rw [if_pos hs] at hp ⊢
        refine bi_eq (fun q => ⟨28 - (i + 1), by omega, i + 1, by omega, rfl, by omega, Or.inl ⟨hs, fun j h1 => ?_⟩⟩) (fun q => ?_)
        · by_cases e : j = i
          · rw [e]; exact q
          · exact q3 j (by omega)
        · rw [show (28 : Nat) = i + 1 + (27 - i) by omega, fnd_at q q3 (27 - i)] at hp
          exact hp
  · unfold rd at hp
    rw [if_pos (by omega)] at hp
    exact hp
