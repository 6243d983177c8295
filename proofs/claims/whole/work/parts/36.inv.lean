/-! ===== what holds between two calls ===== -/
/-- gaps that can not be are 0 -/
abbrev gz (σ : GS) (f : Nat → Int) : Prop := ∀ g : Nat, g < 5 → (σ 3 2 ≤ (g : Int) + 1 ∨ σ 4 g = 3) → f g = 0
abbrev g5 (f : Nat → Int) : Prop := ∀ g : Nat, g < 5 → 0 ≤ f g ∧ f g ≤ 4
def iT (σ : GS) : Prop := (0 ≤ σ 1 1 ∧ σ 1 1 ≤ 64) ∧ σ 51 8 = σ 1 1 ∧ (∀ i, 0 ≤ σ 2 i ∧ σ 2 i ≤ 255) ∧ ∀ i : Nat, (i : Int) < σ 1 1 → σ 57 i = σ 2 i
def iF (σ : GS) : Prop := FanR σ ∧ FanM σ ∧ σ 51 0 = σ 3 2 ∧ (∀ i : Nat, (i : Int) < σ 3 2 → σ 52 i = σ 4 i) ∧ LtX σ ∧ LtM σ ∧ (∀ i : Nat, (i : Int) < 8 * σ 3 2 → σ 5 i = σ 53 i + 97) ∧ (∀ i, 0 ≤ σ 55 i ∧ σ 55 i ≤ 3) ∧ ∀ i, 0 ≤ σ 56 i ∧ σ 56 i ≤ 25
def iG (σ : GS) : Prop := GR σ 7 ∧ GM σ ∧ (∀ g : Nat, g < 5 → σ 54 g = σ 7 g) ∧ gz σ (σ 7)
def iW (σ : GS) : Prop := WordX σ ∧ WordM σ ∧ σ 51 9 = σ 21 1 ∧ ∀ i : Nat, (i : Int) < σ 21 1 → σ 22 i = σ 58 i + 97
/-- the place in the ring of the i-th act of a -/
def rp (nx a : Int) (i : Nat) : Nat := ((nx + 14 - a + i) % 14).toNat
def iA (σ : GS) : Prop := (0 ≤ σ 23 1 ∧ σ 23 1 ≤ 14) ∧ σ 51 11 = σ 23 1 ∧ (0 ≤ σ 51 12 ∧ σ 51 12 ≤ 13) ∧ ∀ i : Nat, (i : Int) < σ 23 1 → (∀ g : Nat, g < 5 → σ (25 + i) g = σ 59 (5 * rp (σ 51 12) (σ 23 1) i + g)) ∧ g5 (σ (25 + i)) ∧ gz σ (σ (25 + i))
def iS (σ : GS) : Prop := ∀ s : Nat, s < 2 → (σ 43 s = 0 ∨ σ 43 s = 1) ∧ σ 63 s = σ 43 s ∧ (σ 43 s = 1 → (∀ g : Nat, g < 5 → σ (41 + s) g = σ 64 (5 * s + g)) ∧ g5 (σ (41 + s)) ∧ gz σ (σ (41 + s)))
def SpX (σ : GS) : Prop := (0 ≤ σ 44 3 ∧ σ 44 3 ≤ 6) ∧ ∀ i, (0 ≤ σ 45 i ∧ σ 45 i ≤ 27) ∧ (0 ≤ σ 46 i ∧ σ 46 i ≤ 255) ∧ (0 ≤ σ 47 i ∧ σ 47 i ≤ 1)
def iP (σ : GS) : Prop := SpX σ ∧ SpM σ ∧ σ 51 14 = σ 44 3 ∧ ∀ i : Nat, (i : Int) < σ 44 3 → σ 45 i = σ 60 i ∧ σ 46 i = σ 61 i + 97 ∧ σ 47 i = σ 62 i
def iE (σ : GS) : Prop := σ 0 13 = σ 51 18
def iV (σ : GS) : Prop := (∀ p : Nat, p < 28 → σ 12 p = -9) ∧ ∀ i : Nat, 5 ≤ i → σ 9 i = 0
def Inv (σ : GS) : Prop := iT σ ∧ iF σ ∧ iG σ ∧ iW σ ∧ iA σ ∧ iS σ ∧ iP σ ∧ iE σ ∧ iV σ
/-- only the class's own rows for trying differ -/
def scX (σ σ' : GS) : Prop := (∀ c, c ≠ 9 → c ≠ 10 → ¬ (13 ≤ c ∧ c ≤ 19) → ¬ (48 ≤ c ∧ c ≤ 50) → σ' c = σ c) ∧ ∀ i : Nat, 5 ≤ i → σ' 9 i = σ 9 i
theorem scX.rf (σ : GS) : scX σ σ := ⟨fun _ _ _ _ _ => rfl, fun _ _ => rfl⟩
theorem scX.tr {a b c : GS} (h1 : scX a b) (h2 : scX b c) : scX a c := ⟨fun k p q r s => (h2.1 k p q r s).trans (h1.1 k p q r s), fun i hi => (h2.2 i hi).trans (h1.2 i hi)⟩
theorem vwl.sc {σ σ' : GS} (h : vwl σ σ') : scX σ σ' := ⟨fun c h1 h2 h3 _ => h c h2 h3, fun i _ => by rw [h 9 (by decide) (by omega)]⟩
/-- only the reference's -/
def scM (σ σ' : GS) : Prop := (∀ c, c ≠ 51 → c ≠ 54 → c ≠ 51 → c ≠ 54 → σ' c = σ c) ∧ (∀ j : Nat, j ≠ 6 → σ' 51 j = σ 51 j) ∧ (∀ g : Nat, g < 5 → σ' 54 g = σ 54 g) ∧ GM σ'
theorem Inv.scX {σ σ' : GS} (h : Inv σ) (s : scX σ σ') : Inv σ' := by
  obtain ⟨hT, hF, hG, hW, hA, hS, hP, hE, hV⟩ := h
  have e : ∀ c, c ≠ 9 → c ≠ 10 → ¬ (13 ≤ c ∧ c ≤ 19) → ¬ (48 ≤ c ∧ c ≤ 50) → σ' c = σ c := s.1
  have e0 := e 0 (by decide) (by decide) (by omega) (by omega)
  have e1 := e 1 (by decide) (by decide) (by omega) (by omega)
  have e2 := e 2 (by decide) (by decide) (by omega) (by omega)
  have e3 := e 3 (by decide) (by decide) (by omega) (by omega)
  have e4 := e 4 (by decide) (by decide) (by omega) (by omega)
  have e5 := e 5 (by decide) (by decide) (by omega) (by omega)
  have e7 := e 7 (by decide) (by decide) (by omega) (by omega)
  have e12 := e 12 (by decide) (by decide) (by omega) (by omega)
  have e21 := e 21 (by decide) (by decide) (by omega) (by omega)
  have e22 := e 22 (by decide) (by decide) (by omega) (by omega)
  have e23 := e 23 (by decide) (by decide) (by omega) (by omega)
  have e43 := e 43 (by decide) (by decide) (by omega) (by omega)
  have e44 := e 44 (by decide) (by decide) (by omega) (by omega)
  have e45 := e 45 (by decide) (by decide) (by omega) (by omega)
  have e46 := e 46 (by decide) (by decide) (by omega) (by omega)
  have e47 := e 47 (by decide) (by decide) (by omega) (by omega)
  have e51 := e 51 (by decide) (by decide) (by omega) (by omega)
  have e52 := e 52 (by decide) (by decide) (by omega) (by omega)
  have e53 := e 53 (by decide) (by decide) (by omega) (by omega)
  have e54 := e 54 (by decide) (by decide) (by omega) (by omega)
  have e57 := e 57 (by decide) (by decide) (by omega) (by omega)
  have e55 := e 55 (by decide) (by decide) (by omega) (by omega)
  have e56 := e 56 (by decide) (by decide) (by omega) (by omega)
  have e58 := e 58 (by decide) (by decide) (by omega) (by omega)
  have e59 := e 59 (by decide) (by decide) (by omega) (by omega)
  have e60 := e 60 (by decide) (by decide) (by omega) (by omega)
  have e61 := e 61 (by decide) (by decide) (by omega) (by omega)
  have e62 := e 62 (by decide) (by decide) (by omega) (by omega)
  have e63 := e 63 (by decide) (by decide) (by omega) (by omega)
  have e64 := e 64 (by decide) (by decide) (by omega) (by omega)
  refine ⟨?_, ?_, ?_, ?_, ?_, ?_, ?_, ?_, ?_⟩
  · unfold iT; rw [e1, e2, e51, e57]; exact hT
  · unfold iF FanR FanM LtX LtM; rw [e3, e4, e5, e51, e52, e53, e55, e56]; exact hF
  · unfold iG GM GR gz; rw [e3, e4, e7, e54]; exact hG
  · unfold iW WordX WordM; rw [e21, e22, e51, e58]; exact hW
  · unfold iA gz
    rw [e23, e51, e59, e3, e4]
    refine ⟨hA.1, hA.2.1, hA.2.2.1, fun i hi => ?_⟩
    have := hA.1
    rw [e (25 + i) (by omega) (by omega) (by omega) (by omega)]
    exact hA.2.2.2 i hi
  · intro t ht
    unfold gz
    rw [e43, e63, e64, e3, e4, e (41 + t) (by omega) (by omega) (by omega) (by omega)]
    exact hS t ht
  · unfold iP SpX SpM; rw [e44, e45, e46, e47, e51, e60, e61, e62]; exact hP
  · unfold iE; rw [e0, e51]; exact hE
  · unfold iV
    rw [e12]
    exact ⟨hV.1, fun i hi => by rw [s.2 i hi]; exact hV.2 i hi⟩
theorem Inv.scM {σ σ' : GS} (h : Inv σ) (s : scM σ σ') : Inv σ' := by
  obtain ⟨hT, hF, hG, hW, hA, hS, hP, hE, hV⟩ := h
  have e : ∀ c, c ≠ 51 → c ≠ 54 → c ≠ 51 → c ≠ 54 → σ' c = σ c := s.1
  have f : ∀ j : Nat, j ≠ 6 → σ' 51 j = σ 51 j := s.2.1
  have e0 := e 0 (by decide) (by decide) (by decide) (by decide)
  have e1 := e 1 (by decide) (by decide) (by decide) (by decide)
  have e2 := e 2 (by decide) (by decide) (by decide) (by decide)
  have e3 := e 3 (by decide) (by decide) (by decide) (by decide)
  have e4 := e 4 (by decide) (by decide) (by decide) (by decide)
  have e5 := e 5 (by decide) (by decide) (by decide) (by decide)
  have e7 := e 7 (by decide) (by decide) (by decide) (by decide)
  have e9 := e 9 (by decide) (by decide) (by decide) (by decide)
  have e12 := e 12 (by decide) (by decide) (by decide) (by decide)
  have e21 := e 21 (by decide) (by decide) (by decide) (by decide)
  have e22 := e 22 (by decide) (by decide) (by decide) (by decide)
  have e23 := e 23 (by decide) (by decide) (by decide) (by decide)
  have e43 := e 43 (by decide) (by decide) (by decide) (by decide)
  have e44 := e 44 (by decide) (by decide) (by decide) (by decide)
  have e45 := e 45 (by decide) (by decide) (by decide) (by decide)
  have e46 := e 46 (by decide) (by decide) (by decide) (by decide)
  have e47 := e 47 (by decide) (by decide) (by decide) (by decide)
  have e52 := e 52 (by decide) (by decide) (by decide) (by decide)
  have e53 := e 53 (by decide) (by decide) (by decide) (by decide)
  have e57 := e 57 (by decide) (by decide) (by decide) (by decide)
  have e55 := e 55 (by decide) (by decide) (by decide) (by decide)
  have e56 := e 56 (by decide) (by decide) (by decide) (by decide)
  have e58 := e 58 (by decide) (by decide) (by decide) (by decide)
  have e59 := e 59 (by decide) (by decide) (by decide) (by decide)
  have e60 := e 60 (by decide) (by decide) (by decide) (by decide)
  have e61 := e 61 (by decide) (by decide) (by decide) (by decide)
  have e62 := e 62 (by decide) (by decide) (by decide) (by decide)
  have e63 := e 63 (by decide) (by decide) (by decide) (by decide)
  have e64 := e 64 (by decide) (by decide) (by decide) (by decide)
  refine ⟨?_, ?_, ?_, ?_, ?_, ?_, ?_, ?_, ?_⟩
  · unfold iT; rw [e1, e2, e57, f 8 (by decide)]; exact hT
  · unfold iF FanR FanM LtX LtM; rw [e3, e4, e5, e52, e53, e55, e56, f 0 (by decide)]; exact hF
  · unfold iG GR gz
    rw [e3, e4, e7]
    exact ⟨hG.1, s.2.2.2, fun g hg => by rw [s.2.2.1 g hg]; exact hG.2.2.1 g hg, hG.2.2.2⟩
  · unfold iW WordX WordM; rw [e21, e22, e58, f 9 (by decide)]; exact hW
  · unfold iA gz
    rw [e23, e59, e3, e4, f 11 (by decide), f 12 (by decide)]
    refine ⟨hA.1, hA.2.1, hA.2.2.1, fun i hi => ?_⟩
    have := hA.1
    rw [e (25 + i) (by omega) (by omega) (by omega) (by omega)]
    exact hA.2.2.2 i hi
  · intro t ht
    unfold gz
    rw [e43, e63, e64, e3, e4, e (41 + t) (by omega) (by omega) (by omega) (by omega)]
    exact hS t ht
  · unfold iP SpX SpM; rw [e44, e45, e46, e47, e60, e61, e62, f 14 (by decide)]; exact hP
  · unfold iE; rw [e0, f 18 (by decide)]; exact hE
  · unfold iV
    rw [e12, e9]
    exact hV
/-- at the start -/
theorem Inv_0 : Inv σ0 := by
  have z : ∀ k i : Nat, k ≠ 12 → σ0 k i = 0 := fun k i h => if_neg h
  refine ⟨⟨by rw [z 1 1 (by decide)]; decide, by rw [z 51 8 (by decide), z 1 1 (by decide)], fun i => by rw [z 2 i (by decide)]; decide, fun i _ => by rw [z 57 i (by decide), z 2 i (by decide)]⟩, ⟨⟨by rw [z 3 2 (by decide)]; decide, fun i => by rw [z 4 i (by decide)]; decide⟩, ⟨by rw [z 51 0 (by decide)]; decide, fun i => by rw [z 52 i (by decide)]; decide⟩, by rw [z 51 0 (by decide), z 3 2 (by decide)], fun i _ => by rw [z 52 i (by decide), z 4 i (by decide)], fun i => by rw [z 5 i (by decide)]; decide, fun i => by rw [z 53 i (by decide)]; decide, fun i hi => by rw [z 3 2 (by decide)] at hi; omega, fun i => by rw [z 55 i (by decide)]; decide, fun i => by rw [z 56 i (by decide)]; decide⟩, ⟨fun i => by rw [z 7 i (by decide)]; decide, fun i => by rw [z 54 i (by decide)]; decide, fun i _ => by rw [z 54 i (by decide), z 7 i (by decide)], fun i _ _ => z 7 i (by decide)⟩, ⟨⟨by rw [z 21 1 (by decide)]; decide, fun i => by rw [z 22 i (by decide)]; decide⟩, ⟨by rw [z 51 9 (by decide)]; decide, fun i => by rw [z 58 i (by decide)]; decide⟩, by rw [z 51 9 (by decide), z 21 1 (by decide)], fun i hi => by rw [z 21 1 (by decide)] at hi; omega⟩, ⟨by rw [z 23 1 (by decide)]; decide, by rw [z 51 11 (by decide), z 23 1 (by decide)], by rw [z 51 12 (by decide)]; decide, fun i hi => by rw [z 23 1 (by decide)] at hi; omega⟩, fun t ht => ⟨Or.inl (z 43 t (by decide)), by rw [z 63 t (by decide), z 43 t (by decide)], fun h => by rw [z 43 t (by decide)] at h; omega⟩, ⟨⟨by rw [z 44 3 (by decide)]; decide, fun i => by rw [z 45 i (by decide), z 46 i (by decide), z 47 i (by decide)]; decide⟩, ⟨by rw [z 51 14 (by decide)]; decide, fun i => by rw [z 60 i (by decide), z 61 i (by decide), z 62 i (by decide)]; decide⟩, by rw [z 51 14 (by decide), z 44 3 (by decide)], fun i hi => by rw [z 44 3 (by decide)] at hi; omega⟩, by unfold iE; rw [z 0 13 (by decide), z 51 18 (by decide)], ⟨fun p hp => ?_, fun i _ => z 9 i (by decide)⟩⟩
  show (if (12 : Nat) = 12 then (if p < 28 then (-9 : Int) else 0) else 0) = -9
  rw [if_pos rfl, if_pos hp]
/-- what is seen is the same on both sides -/
theorem seen_XM {σ : GS} (h : iF σ) {gp : Nat → Int} {L : Nat} (hg : ∀ g : Nat, (g : Int) + 1 < σ 3 2 → gp g = gm σ L g) (side set p : Int) : seen side set (σ 4) gp p (σ 3 2).toNat = sM σ L set side p := by
  unfold sM
  rw [h.2.2.1]
  exact seen_congr (fun b hb => (h.2.2.2.1 b (by omega)).symm) (fun g hg2 => hg g (by omega))
theorem ltr_XM {σ : GS} (h : iF σ) {gp : Nat → Int} {L : Nat} (hg : ∀ g : Nat, (g : Int) + 1 < σ 3 2 → gp g = gm σ L g) {side : Int} (hs0 : 0 ≤ side ∧ side ≤ 1) (set p : Int) : ltr side set (σ 4) gp (σ 5) (σ 3 2).toNat p = if sM σ L set side p < 0 then -9 else lM σ L set side p + 97 := by
  have hn := h.1.1
  have e := seen_XM h hg side set p
  have es : ∀ b : Nat, (b : Int) < σ 3 2 → sm gp b = sm (gm σ L) b := fun b hb => sm_congr (fun k hk => hg k (by omega))
  unfold lM ltr mkv
  unfold sM at e ⊢
  rw [h.2.2.1] at e ⊢
  rw [e]
  split
  · rfl
  · rename_i q
    rcases seen_rg side set (σ 52) (gm σ L) p (σ 3 2).toNat with z | ⟨z1, z2, z3⟩
    · omega
    · obtain ⟨b, hb⟩ := Int.eq_ofNat_of_zero_le z1
      rw [hb] at z3 z2 ⊢
      rw [Int.toNat_natCast] at z3 ⊢
      rw [es b (by omega)]
      have c1 := z3.1
      have c2 := z3.2.1
      exact h.2.2.2.2.2.2.1 _ (by omega)
