/-! ===== the calls that change something small ===== -/
def fr (D J : List Nat) (σ σ' : GS) : Prop := (∀ c, c ≠ 51 → c ∉ D → σ' c = σ c) ∧ ∀ j, j ∉ J → σ' 51 j = σ 51 j
theorem fr.rf {D J : List Nat} {σ : GS} : fr D J σ σ := ⟨fun _ _ _ => rfl, fun _ _ => rfl⟩
theorem fr.tr {D J : List Nat} {a b c : GS} (h1 : fr D J a b) (h2 : fr D J b c) : fr D J a c := ⟨fun k p q => (h2.1 k p q).trans (h1.1 k p q), fun i hi => (h2.2 i hi).trans (h1.2 i hi)⟩
theorem fr.mono {D J D' J' : List Nat} {a b : GS} (h1 : fr D J a b) (hD : ∀ c, c ∈ D → c ∈ D') (hJ : ∀ c, c ∈ J → c ∈ J') : fr D' J' a b := ⟨fun k p q => h1.1 k p (fun r => q (hD k r)), fun i hi => h1.2 i (fun r => hi (hJ i r))⟩
theorem fr.uR {D J : List Nat} {σ σ' : GS} {k : Nat} {f : Nat → Int} (h : fr D J σ σ') (hk : k ∈ D) (hk2 : k ≠ 51) : fr D J σ (upR σ' k f) := by
  refine ⟨fun c h1 h2 => ?_, fun j hj => ?_⟩
  · rw [upR_n _ _ (fun e => h2 (by rw [e]; exact hk))]
    exact h.1 c h1 h2
  · rw [upR_n _ _ (fun e => hk2 e.symm)]
    exact h.2 j hj
theorem fr.u2 {D J : List Nat} {σ σ' : GS} {k i : Nat} {v : Int} (h : fr D J σ σ') (hk : k ∈ D) (hk2 : k ≠ 51) : fr D J σ (up2 σ' k i v) := h.uR hk hk2
theorem fr.u5 {D J : List Nat} {σ σ' : GS} {i : Nat} {v : Int} (h : fr D J σ σ') (hk : i ∈ J) : fr D J σ (up2 σ' 51 i v) := by
  refine ⟨fun c h1 h2 => ?_, fun j hj => ?_⟩
  · rw [up2_n _ _ _ h1]
    exact h.1 c h1 h2
  · rw [up2_s, up1_n _ _ (fun e => hj (by rw [e]; exact hk))]
    exact h.2 j hj
theorem iT.fr {D J : List Nat} {σ σ' : GS} (h : iT σ) (f : fr D J σ σ') (d : 1 ∉ D ∧ 2 ∉ D ∧ 57 ∉ D ∧ 8 ∉ J) : iT σ' := by
  unfold iT
  rw [f.1 1 (by decide) d.1, f.1 2 (by decide) d.2.1, f.1 57 (by decide) d.2.2.1, f.2 8 d.2.2.2]; exact h
theorem iF.fr {D J : List Nat} {σ σ' : GS} (h : iF σ) (f : fr D J σ σ') (d : 3 ∉ D ∧ 4 ∉ D ∧ 5 ∉ D ∧ 52 ∉ D ∧ 53 ∉ D ∧ 0 ∉ J ∧ 55 ∉ D ∧ 56 ∉ D) : iF σ' := by
  unfold iF FanR FanM LtX LtM
  rw [f.1 3 (by decide) d.1, f.1 4 (by decide) d.2.1, f.1 5 (by decide) d.2.2.1, f.1 52 (by decide) d.2.2.2.1, f.1 53 (by decide) d.2.2.2.2.1, f.2 0 d.2.2.2.2.2.1, f.1 55 (by decide) d.2.2.2.2.2.2.1, f.1 56 (by decide) d.2.2.2.2.2.2.2]; exact h
theorem iG.fr {D J : List Nat} {σ σ' : GS} (h : iG σ) (f : fr D J σ σ') (d : 3 ∉ D ∧ 4 ∉ D ∧ 7 ∉ D ∧ 54 ∉ D) : iG σ' := by
  unfold iG GR GM gz
  rw [f.1 3 (by decide) d.1, f.1 4 (by decide) d.2.1, f.1 7 (by decide) d.2.2.1, f.1 54 (by decide) d.2.2.2]; exact h
theorem iW.fr {D J : List Nat} {σ σ' : GS} (h : iW σ) (f : fr D J σ σ') (d : 21 ∉ D ∧ 22 ∉ D ∧ 58 ∉ D ∧ 9 ∉ J) : iW σ' := by
  unfold iW WordX WordM
  rw [f.1 21 (by decide) d.1, f.1 22 (by decide) d.2.1, f.1 58 (by decide) d.2.2.1, f.2 9 d.2.2.2]; exact h
theorem iA.fr {D J : List Nat} {σ σ' : GS} (h : iA σ) (f : fr D J σ σ') (d : 3 ∉ D ∧ 4 ∉ D ∧ 23 ∉ D ∧ 59 ∉ D ∧ 11 ∉ J ∧ 12 ∉ J ∧ ∀ i, i < 14 → 25 + i ∉ D) : iA σ' := by
  unfold iA gz
  rw [f.1 3 (by decide) d.1, f.1 4 (by decide) d.2.1, f.1 23 (by decide) d.2.2.1, f.1 59 (by decide) d.2.2.2.1, f.2 11 d.2.2.2.2.1, f.2 12 d.2.2.2.2.2.1]
  refine ⟨h.1, h.2.1, h.2.2.1, fun i hi => ?_⟩
  have := h.1
  rw [f.1 (25 + i) (by omega) (d.2.2.2.2.2.2 i (by omega))]
  exact h.2.2.2 i hi
theorem iS.fr {D J : List Nat} {σ σ' : GS} (h : iS σ) (f : fr D J σ σ') (d : 3 ∉ D ∧ 4 ∉ D ∧ 43 ∉ D ∧ 63 ∉ D ∧ 64 ∉ D ∧ ∀ i, i < 2 → 41 + i ∉ D) : iS σ' := by
  intro t ht
  unfold gz
  rw [f.1 3 (by decide) d.1, f.1 4 (by decide) d.2.1, f.1 43 (by decide) d.2.2.1, f.1 63 (by decide) d.2.2.2.1, f.1 64 (by decide) d.2.2.2.2.1, f.1 (41 + t) (by omega) (d.2.2.2.2.2 t ht)]
  exact h t ht
theorem iP.fr {D J : List Nat} {σ σ' : GS} (h : iP σ) (f : fr D J σ σ') (d : 44 ∉ D ∧ 45 ∉ D ∧ 46 ∉ D ∧ 47 ∉ D ∧ 60 ∉ D ∧ 61 ∉ D ∧ 62 ∉ D ∧ 14 ∉ J) : iP σ' := by
  unfold iP SpX SpM
  rw [f.1 44 (by decide) d.1, f.1 45 (by decide) d.2.1, f.1 46 (by decide) d.2.2.1, f.1 47 (by decide) d.2.2.2.1, f.1 60 (by decide) d.2.2.2.2.1, f.1 61 (by decide) d.2.2.2.2.2.1, f.1 62 (by decide) d.2.2.2.2.2.2.1, f.2 14 d.2.2.2.2.2.2.2]; exact h
theorem iE.fr {D J : List Nat} {σ σ' : GS} (h : iE σ) (f : fr D J σ σ') (d : 0 ∉ D ∧ 18 ∉ J) : iE σ' := by
  unfold iE
  rw [f.1 0 (by decide) d.1, f.2 18 d.2]; exact h
theorem iV.fr {D J : List Nat} {σ σ' : GS} (h : iV σ) (f : fr D J σ σ') (d : 12 ∉ D ∧ 9 ∉ D) : iV σ' := by
  unfold iV
  rw [f.1 12 (by decide) d.1, f.1 9 (by decide) d.2]; exact h
theorem up1_all {P : Int → Prop} {f : Nat → Int} {j : Nat} {v : Int} (h : ∀ i, P (f i)) (hv : P v) : ∀ i, P (up1 f j v i) := by
  intro i
  unfold up1
  split
  · exact hv
  · exact h i
/-- write -/
theorem q_write {σ : GS} {a0 : Int} {K : Int → Int → GS → Prop} (hI : Inv σ) (h0 : rg a0) (hK : ∀ z σ', rg z → Inv σ' → K z z σ') : vc_X9_write σ a0 (fun z σ1 => vc_X10_write σ1 a0 (fun z' σ2 => K z z' σ2)) := by
  unfold vc_X9_write
  have ht := hI.T
  have h1 := ht.1
  refine ⟨h0, fun c => ?_, fun c => ⟨fun d => ⟨by omega, fun e => ⟨by omega, by decide, fun f => absurd f (by decide), fun _ => ?_⟩, fun e => ⟨by decide, fun _ => ?_, fun f => absurd rfl f⟩⟩, fun d => ?_⟩⟩
  · unfold vc_X10_write
    exact ⟨h0, s_X10_in (rl h0) (by decide) (by decide) (bi_ne (fun p => absurd p (by omega)) (fun p => hK _ _ (by decide) hI))⟩
  · obtain ⟨n, hn⟩ := Int.eq_ofNat_of_zero_le h1.1
    unfold vc_X3_length vc_X10_write
    dsimp only
    have a1 : up2 (up2 σ 2 (σ 1 1).toNat a0) 1 1 ((up2 σ 2 (σ 1 1).toNat a0) 1 1 + 1) 51 8 = σ 51 8 := rfl
    have a2 : up2 (up2 σ 2 (σ 1 1).toNat a0) 1 1 ((up2 σ 2 (σ 1 1).toNat a0) 1 1 + 1) 1 1 = σ 1 1 + 1 := rfl
    rw [a1, a2, ht.2.1]
    refine ⟨h0, s_X10_in (rl h0) (by decide) (by decide) (bi_ne (fun p => ⟨by omega, fun q => ⟨by omega, ?_⟩, fun q => absurd q (by omega)⟩) (fun p => absurd p (by omega)))⟩
    generalize hσ : up2 (up2 (up2 (up2 σ 2 (σ 1 1).toNat a0) 1 1 ((up2 σ 2 (σ 1 1).toNat a0) 1 1 + 1)) 57 (σ 1 1).toNat a0) 51 8 (up2 (up2 (up2 σ 2 (σ 1 1).toNat a0) 1 1 ((up2 σ 2 (σ 1 1).toNat a0) 1 1 + 1)) 57 (σ 1 1).toNat a0 51 8 + 1) = σ'
    have e51 : σ' 51 8 = σ 1 1 + 1 := by rw [← hσ, ← ht.2.1]; rfl
    have e1 : σ' 1 1 = σ 1 1 + 1 := by rw [← hσ]; rfl
    have e2 : σ' 2 = up1 (σ 2) n a0 := by rw [← hσ, hn]; rfl
    have e57 : σ' 57 = up1 (σ 57) n a0 := by rw [← hσ, hn]; rfl
    have f : fr [1, 2, 57] [8] σ σ' := by
      rw [← hσ]
      exact fr.u5 (fr.u2 (fr.u2 (fr.u2 fr.rf (by decide) (by decide)) (by decide) (by decide)) (by decide) (by decide)) (by decide)
    rw [e51]
    refine hK _ _ (by omega) ⟨?_, hI.F.fr f (by decide), hI.G.fr f (by decide), hI.W.fr f (by decide), hI.A.fr f (by decide), hI.S.fr f (by decide), hI.P.fr f (by decide), hI.E.fr f (by decide), hI.V.fr f (by decide)⟩
    unfold iT
    rw [e51, e1, e2, e57]
    refine ⟨by omega, rfl, up1_all (P := fun z => 0 ≤ z ∧ z ≤ 255) ht.2.2.1 ⟨by omega, d⟩, fun i hi => ?_⟩
    unfold up1
    split
    · rfl
    · exact ht.2.2.2 i (by omega)
  · unfold vc_X10_write
    dsimp only
    rw [ht.2.1]
    exact ⟨h0, s_X10_in (rl h0) (by decide) (by decide) (bi_ne (fun p => ⟨by omega, fun q => absurd q (by omega), fun q => hK _ _ (by decide) hI⟩) (fun p => absurd p (by omega)))⟩
  · unfold vc_X10_write
    exact ⟨h0, s_X10_in (rl h0) (by decide) (by decide) (bi_ne (fun p => absurd p (by omega)) (fun p => hK _ _ (by decide) hI))⟩
/-- wipe -/
theorem q_wipe {σ : GS} {K : Int → Int → GS → Prop} (hI : Inv σ) (hK : ∀ z σ', rg z → Inv σ' → K z z σ') : vc_X9_wipe σ (fun z σ1 => vc_X10_wipe σ1 (fun z' σ2 => K z z' σ2)) := by
  have ht := hI.T
  have h1 := ht.1
  show K (σ 1 1) (σ 51 8) (up2 (up2 σ 1 1 0) 51 8 0)
  rw [ht.2.1]
  have f : fr [1] [8] σ (up2 (up2 σ 1 1 0) 51 8 0) := fr.u5 (fr.u2 fr.rf (by decide) (by decide)) (by decide)
  refine hK _ _ (by omega) ⟨?_, hI.F.fr f (by decide), hI.G.fr f (by decide), hI.W.fr f (by decide), hI.A.fr f (by decide), hI.S.fr f (by decide), hI.P.fr f (by decide), hI.E.fr f (by decide), hI.V.fr f (by decide)⟩
  exact ⟨(by decide : (0 : Int) ≤ 0 ∧ (0 : Int) ≤ 64), rfl, ht.2.2.1, fun i hi => by have hi : (i : Int) < 0 := hi; omega⟩
/-- seed -/
theorem q_seed {σ : GS} {a0 : Int} {K : Int → Int → GS → Prop} (hI : Inv σ) (hK : ∀ z σ', Inv σ' → K z z σ') : vc_X9_seed σ a0 (fun z σ1 => vc_X10_seed σ1 a0 (fun z' σ2 => K z z' σ2)) := by
  show K (σ 0 13) (σ 51 18) (up2 (up2 σ 0 13 a0) 51 18 a0)
  have he : σ 0 13 = σ 51 18 := hI.E
  rw [he]
  have f : fr [0] [18] σ (up2 (up2 σ 0 13 a0) 51 18 a0) := fr.u5 (fr.u2 fr.rf (by decide) (by decide)) (by decide)
  exact hK _ _ ⟨hI.T.fr f (by decide), hI.F.fr f (by decide), hI.G.fr f (by decide), hI.W.fr f (by decide), hI.A.fr f (by decide), hI.S.fr f (by decide), hI.P.fr f (by decide), rfl, hI.V.fr f (by decide)⟩
/-- unspy -/
theorem q_unspy {σ : GS} {K : Int → Int → GS → Prop} (hI : Inv σ) (hK : ∀ z σ', rg z → Inv σ' → K z z σ') : vc_X9_unspy σ (fun z σ1 => vc_X10_unspy σ1 (fun z' σ2 => K z z' σ2)) := by
  have hp := hI.P
  have h1 := hp.1.1
  show K (σ 44 3) (σ 51 14) (up2 (up2 σ 44 3 0) 51 14 0)
  rw [hp.2.2.1]
  have f : fr [44] [14] σ (up2 (up2 σ 44 3 0) 51 14 0) := fr.u5 (fr.u2 fr.rf (by decide) (by decide)) (by decide)
  refine hK _ _ (by omega) ⟨hI.T.fr f (by decide), hI.F.fr f (by decide), hI.G.fr f (by decide), hI.W.fr f (by decide), hI.A.fr f (by decide), hI.S.fr f (by decide), ?_, hI.E.fr f (by decide), hI.V.fr f (by decide)⟩
  exact ⟨⟨(by decide : (0 : Int) ≤ 0 ∧ (0 : Int) ≤ 6), hp.1.2⟩, ⟨(by decide : (0 : Int) ≤ 0 ∧ (0 : Int) ≤ 6), hp.2.1.2⟩, rfl, fun i hi => by have hi : (i : Int) < 0 := hi; omega⟩
/-- spy -/
theorem spy_M {σ : GS} {a0 a1 a2 : Int} {Post : Int → GS → Prop} (h0 : rg a0) (h1 : rg a1) (h2 : rg a2) (b0 : ¬ (0 ≤ a0 ∧ a0 < 28) → Post (-1) σ) (b1 : (0 ≤ a0 ∧ a0 < 28) → ¬ ((97 ≤ a1 ∧ a1 ≤ 122) ∧ (a2 = 0 ∨ a2 = 1)) → Post (-2) σ) (hb : 0 ≤ σ 51 14 ∧ σ 51 14 ≤ 6) (b2 : (0 ≤ a0 ∧ a0 < 28) → (97 ≤ a1 ∧ a1 ≤ 122) → (a2 = 0 ∨ a2 = 1) → (σ 51 14 = 6 → Post (-4) σ) ∧ (σ 51 14 < 6 → ∀ σ', fr [60, 61, 62] [14] σ σ' → σ' 51 14 = σ 51 14 + 1 → σ' 60 = up1 (σ 60) (σ 51 14).toNat a0 → σ' 61 = up1 (σ 61) (σ 51 14).toNat (a1 - 97) → σ' 62 = up1 (σ 62) (σ 51 14).toNat a2 → Post (σ 51 14 + 1) σ')) : vc_X10_spy σ a0 a1 a2 Post := by
  unfold vc_X10_spy
  refine ⟨h0, s_X10_in (rl h0) (by decide) (by decide) (bi_ne (fun p0 => ⟨h1, s_X10_in (rl h1) (by decide) (by decide) (bi_eq (fun p1 => b1 (by omega) (by omega)) (fun p1 => ⟨h2, s_X10_in (rl h2) (by decide) (by decide) (bi_ne (fun p2 => ⟨by omega, fun q => ⟨by omega, (⟨hb.1, by omega⟩ : 0 ≤ σ 51 14 ∧ σ 51 14 < 6), (⟨hb.1, by omega⟩ : 0 ≤ σ 51 14 ∧ σ 51 14 < 6), ?_⟩, fun q => (b2 (by omega) (by omega) (by omega)).1 q⟩) (fun p2 => b1 (by omega) (by omega)))⟩))⟩) (fun p0 => b0 (by omega)))⟩
  · refine (b2 (by omega) (by omega) (by omega)).2 (by omega) _ ?_ rfl rfl rfl rfl
    exact fr.u5 (fr.u2 (fr.u2 (fr.u2 fr.rf (by decide) (by decide)) (by decide) (by decide)) (by decide) (by decide)) (by decide)
theorem spy_X {σ : GS} {a0 a1 a2 : Int} {Post : Int → GS → Prop} (hb : 0 ≤ σ 44 3 ∧ σ 44 3 ≤ 6) (h2 : a2 = 0 ∨ a2 = 1) (b : σ 44 3 = 6 → Post 0 σ) (c : σ 44 3 < 6 → ∀ σ', fr [44, 45, 46, 47] [] σ σ' → σ' 44 3 = σ 44 3 + 1 → σ' 45 = up1 (σ 45) (σ 44 3).toNat a0 → σ' 46 = up1 (σ 46) (σ 44 3).toNat a1 → σ' 47 = up1 (σ 47) (σ 44 3).toNat a2 → Post 1 σ') : vc_X5_add σ a0 a1 a2 Post := by
  unfold vc_X5_add
  refine ⟨by omega, fun q => ⟨by omega, (⟨hb.1, q⟩ : 0 ≤ σ 44 3 ∧ σ 44 3 < 6), (⟨hb.1, q⟩ : 0 ≤ σ 44 3 ∧ σ 44 3 < 6), h2, ?_⟩, fun q => b (by omega)⟩
  refine c q _ ?_ rfl rfl rfl rfl
  exact fr.u2 (fr.u2 (fr.u2 (fr.u2 fr.rf (by decide) (by decide)) (by decide) (by decide)) (by decide) (by decide)) (by decide) (by decide)
theorem q_spy_add {σ : GS} {a0 a1 a2 : Int} {K : Int → Int → GS → Prop} (hI : Inv σ) (h0 : 0 ≤ a0 ∧ a0 < 28) (h1 : 97 ≤ a1 ∧ a1 ≤ 122) (h2 : a2 = 0 ∨ a2 = 1) (hK : ∀ z σ', rg z → Inv σ' → K z z σ') : vc_X5_add σ a0 a1 a2 (fun z12 σ12 => (rg z12) ∧ ((z12 = 0 → (vc_X10_spy σ12 a0 a1 a2 (fun z' σ2 => K (-4) z' σ2))) ∧ (¬ z12 = 0 → (vc_X5_size σ12 (fun (z15 : Int) => vc_X10_spy σ12 a0 a1 a2 (fun z' σ2 => K z15 z' σ2)))))) := by
  have hp := hI.P
  have hb := hp.1.1
  refine spy_X hb h2 (fun q => ⟨by decide, fun _ => ?_, fun c => absurd rfl c⟩) (fun q σ1 f g0 g1 g2 g3 => ⟨by decide, fun c => absurd c (by decide), fun _ => ?_⟩)
  · refine spy_M ⟨by omega, by omega⟩ ⟨by omega, by omega⟩ ⟨by omega, by omega⟩ (fun c => absurd h0 c) (fun _ c => absurd ⟨h1, h2⟩ c) hp.2.1.1 (fun _ _ _ => ⟨fun _ => hK _ _ (by decide) hI, fun c => ?_⟩)
    rw [hp.2.2.1] at c
    omega
  · unfold vc_X5_size
    have e51 : σ1 51 14 = σ 44 3 := by rw [f.2 14 (by decide)]; exact hp.2.2.1
    have e60 := f.1 60 (by decide) (by decide)
    have e61 := f.1 61 (by decide) (by decide)
    have e62 := f.1 62 (by decide) (by decide)
    obtain ⟨n, hn⟩ := Int.eq_ofNat_of_zero_le hb.1
    refine spy_M ⟨by omega, by omega⟩ ⟨by omega, by omega⟩ ⟨by omega, by omega⟩ (fun c => absurd h0 c) (fun _ c => absurd ⟨h1, h2⟩ c) (by omega) (fun _ _ _ => ⟨fun c => absurd c (by omega), fun c σ2 f2 k0 k1 k2 k3 => ?_⟩)
    rw [g0, e51]
    have f3 : fr [44, 45, 46, 47, 60, 61, 62] [14] σ σ2 := fr.tr (f.mono (by simp +contextual) (by simp)) (f2.mono (by simp +contextual) (by simp))
    refine hK _ _ (by omega) ⟨hI.T.fr f3 (by decide), hI.F.fr f3 (by decide), hI.G.fr f3 (by decide), hI.W.fr f3 (by decide), hI.A.fr f3 (by decide), hI.S.fr f3 (by decide), ?_, hI.E.fr f3 (by decide), hI.V.fr f3 (by decide)⟩
    unfold iP SpX SpM
    rw [k0, k1, k2, k3, f2.1 44 (by decide) (by decide), f2.1 45 (by decide) (by decide), f2.1 46 (by decide) (by decide), f2.1 47 (by decide) (by decide), g0, g1, g2, g3, e51, e60, e61, e62, hn, Int.toNat_natCast]
    refine ⟨⟨by omega, fun i => ?_⟩, ⟨by omega, fun i => ?_⟩, rfl, fun i hi => ?_⟩
    · have := hp.1.2 i
      unfold up1
      split <;> omega
    · have := hp.2.1.2 i
      unfold up1
      split <;> omega
    · unfold up1
      split
      · exact ⟨rfl, by omega, rfl⟩
      · exact hp.2.2.2 i (by omega)
theorem q_spy {σ : GS} {a0 a1 a2 : Int} {K : Int → Int → GS → Prop} (hI : Inv σ) (h0 : rg a0) (h1 : rg a1) (h2 : rg a2) (hK : ∀ z σ', rg z → Inv σ' → K z z σ') : vc_X9_spy σ a0 a1 a2 (fun z σ1 => vc_X10_spy σ1 a0 a1 a2 (fun z' σ2 => K z z' σ2)) := by
  unfold vc_X9_spy
  have hb := hI.P.2.1.1
  refine s_X9_isPlace h0 (bi_ne (fun p0 => s_X9_isLetter h1 (bi_eq (fun p1 => ?_) (fun p1 => s_X9_isBit h2 (bi_ne (fun p2 => ⟨h2, fun q => ?_, fun q => ?_⟩) (fun p2 => ?_))))) (fun p0 => ?_))
  · exact spy_M h0 h1 h2 (fun c => absurd p0 c) (fun _ _ => hK _ _ (by decide) hI) hb (fun _ c => absurd c p1)
  · have e : a2 = 0 := by omega
    subst e
    exact q_spy_add hI p0 p1 p2 hK
  · subst q
    exact q_spy_add hI p0 p1 p2 hK
  · exact spy_M h0 h1 h2 (fun c => absurd p0 c) (fun _ _ => hK _ _ (by decide) hI) hb (fun _ _ c => absurd c p2)
  · exact spy_M h0 h1 h2 (fun _ => hK _ _ (by decide) hI) (fun c => absurd c p0) hb (fun c => absurd c p0)
