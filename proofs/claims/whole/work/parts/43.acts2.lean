/-! ===== fling, snap, undo, keep, again ===== -/
theorem csp_cw {σ : GS} (hF : iF σ) {k L : Nat} (hg : ∀ g : Nat, (g : Int) + 1 < σ 3 2 → σ (k + 1) g = gm σ L g) (a : Int) : csp σ L a ↔ cw σ k a := by
  have hN := hF.2.2.1
  unfold csp cw fre
  rw [hN]
  by_cases h : 0 ≤ a ∧ a < σ 3 2 - 1
  · rw [← hg a.toNat (by omega), hF.2.2.2.1 a.toNat (by omega)]
    exact ⟨fun q => ⟨⟨q.1, q.2.1, q.2.2.1⟩, q.2.2.2⟩, fun q => ⟨q.1.1, q.1.2.1, q.1.2.2, q.2⟩⟩
  · exact ⟨fun q => absurd ⟨q.1, q.2.1⟩ h, fun q => absurd ⟨q.1.1, q.1.2.1⟩ h⟩
theorem cfo_cnw {σ : GS} (hF : iF σ) {k L : Nat} (hg : ∀ g : Nat, (g : Int) + 1 < σ 3 2 → σ (k + 1) g = gm σ L g) (a : Int) : cfo σ L a ↔ cnw σ k a := by
  have hN := hF.2.2.1
  unfold cfo cnw fre
  rw [hN]
  by_cases h : 0 ≤ a ∧ a < σ 3 2 - 1
  · rw [← hg a.toNat (by omega), hF.2.2.2.1 a.toNat (by omega)]
    exact ⟨fun q => ⟨⟨q.1, q.2.1, q.2.2.1⟩, q.2.2.2⟩, fun q => ⟨q.1.1, q.1.2.1, q.1.2.2, q.2⟩⟩
  · exact ⟨fun q => absurd ⟨q.1, q.2.1⟩ h, fun q => absurd ⟨q.1.1, q.1.2.1⟩ h⟩
theorem sum_eq {σ : GS} (hF : iF σ) (hG : iG σ) : sm (σ 7) 5 = sm (gm σ 0) (gN σ) ∧ rg (sm (σ 7) 5) := by
  have hn := hF.1.1
  have e : sm (gm σ 0) (gN σ) = sm (σ 7) (gN σ) := by
    refine sm_congr (fun k hk => ?_)
    unfold gN at hk
    rw [hF.2.2.1] at hk
    have := hG.2.2.1 k (by omega)
    unfold gm
    rw [Nat.mul_zero, Nat.zero_add, this]
  rw [e]
  unfold gN
  rw [hF.2.2.1, sm_gz (n := (σ 3 2 - 1).toNat) hG.2.2.2 (by omega)]
  have := sm_rg (f := σ 7) hG.1 5
  exact ⟨rfl, by omega, by omega⟩
theorem q_fling {σ : GS} {K : Int → Int → GS → Prop} (hI : Inv σ) (hK : ∀ z σ', rg z → Inv σ' → K z z σ') : vc_X9_fling σ (fun z σ1 => vc_X10_fling σ1 (fun z' σ2 => K z z' σ2)) := by
  unfold vc_X9_fling
  have hA := hI.A
  have hF := hI.F
  have h11 : 0 ≤ σ 51 11 ∧ σ 51 11 ≤ 14 := by rw [hA.2.1]; exact hA.1
  refine s_X0_remember hA.1 (fun σ1 r => ?_)
  have e : ∀ c, c ≠ 23 → ¬ (25 ≤ c ∧ c ≤ 38) → σ1 c = σ c := r.1
  have e3 := e 3 (by decide) (by omega)
  have e4 := e 4 (by decide) (by omega)
  have e7 := e 7 (by decide) (by omega)
  have e51 := e 51 (by decide) (by omega)
  have e52 := e 52 (by decide) (by omega)
  have e54 := e 54 (by decide) (by omega)
  have ecw : ∀ a : Int, cw σ1 6 a ↔ cw σ 6 a := by
    intro a
    have : σ1 (6 + 1) = σ (6 + 1) := e7
    unfold cw fre
    rw [e3, e4, this]
  refine s_X2_widenAll (Or.inl rfl) (by unfold FanR; rw [e3, e4]; exact hF.1) (by unfold GR; show ∀ i, 0 ≤ σ1 7 i ∧ σ1 7 i ≤ 4; rw [e7]; exact hI.G.1) ?_
  have x : ∀ c, c ≠ 7 → upR σ1 (6 + 1) (wa σ1 6) c = σ1 c := fun c hc => upR_n _ _ hc
  have x7 : upR σ1 (6 + 1) (wa σ1 6) 7 = wa σ1 6 := upR_s _ _ _
  generalize upR σ1 (6 + 1) (wa σ1 6) = σ2 at x x7
  have y51 : σ2 51 = σ 51 := by rw [x 51 (by decide), e51]
  have y52 : σ2 52 = σ 52 := by rw [x 52 (by decide), e52]
  have y54 : σ2 54 = σ 54 := by rw [x 54 (by decide), e54]
  unfold vc_X10_fling
  refine s_X10_keepAct (by rw [y51]; exact h11) (by rw [y51]; exact hA.2.2.1) (fun σ3 k => ?_)
  have z54 : σ3 54 = σ 54 := by rw [k.1.1 54 (by decide) (by decide), y54]
  have z52 : σ3 52 = σ 52 := by rw [k.1.1 52 (by decide) (by decide), y52]
  have z51 : σ3 51 0 = σ 51 0 := by rw [k.1.2 0 (by decide), y51]
  have z7 : σ3 7 = wa σ1 6 := by rw [k.1.1 7 (by decide) (by decide), x7]
  refine s_X10_flingOn (L := 0) (by unfold FanM; rw [z51, z52]; exact hF.2.1) (by unfold GM; rw [z54]; exact hI.G.2.1) (by decide) ?_
  have ecs : ∀ a : Int, csp σ3 0 a ↔ cw σ 6 a := by
    intro a
    rw [← csp_cw hF hI.gE]
    unfold csp gm
    rw [z51, z52, z54]
  rw [cnt_congr (fun g _ => ecw g), cnt_congr (fun g _ => ecs g)]
  have hc := cnt_rg (fun g : Nat => cw σ 6 g) 5
  refine hK _ _ ⟨by omega, by omega⟩ (inv_act hI r x k (fun c hc => upR_n _ _ hc) ?_)
  have w7 : ∀ g : Nat, wa σ1 6 g = if cw σ 6 g then σ 7 g + 1 else σ 7 g := by
    intro g
    unfold wa
    have : σ1 (6 + 1) = σ 7 := e7
    by_cases c : cw σ 6 g
    · rw [if_pos c, if_pos ((ecw g).mpr c), this]
    · rw [if_neg c, if_neg (fun q => c ((ecw g).mp q)), this]
  have w5 : ∀ g : Nat, w54 σ3 0 g = if cw σ 6 g then σ 54 g + 1 else σ 54 g := by
    intro g
    unfold w54
    rw [z54]
    have e0 : ((g : Int) - 5 * ((0 : Nat) : Int)) = g := by omega
    rw [e0]
    by_cases c : cw σ 6 g
    · rw [if_pos c, if_pos ⟨by omega, (ecs g).mpr c⟩]
    · rw [if_neg c, if_neg (fun q => c ((ecs g).mp q.2))]
  have cg : ∀ g : Nat, cw σ 6 g → g < 5 ∧ σ 7 g < 4 ∧ (g : Int) + 1 < σ 3 2 ∧ σ 4 g ≠ 3 := by
    intro g c
    have hn := hF.1.1
    have c1 := c.1.2.1
    have c2 := c.1.2.2
    have c3 := c.2
    rw [Int.toNat_natCast] at c2 c3
    exact ⟨by omega, c3, by omega, c2⟩
  unfold iG GR GM gz
  rw [upR_s, upR_n _ _ (by decide), upR_n _ _ (by decide), upR_n _ _ (by decide), z7, k.1.1 3 (by decide) (by decide), k.1.1 4 (by decide) (by decide), x 3 (by decide), x 4 (by decide), e3, e4]
  refine ⟨fun i => ?_, fun i => ?_, fun g hg => ?_, fun g hg hz => ?_⟩
  · rw [w7]
    have := hI.G.1 i
    have : 0 ≤ σ 7 i ∧ σ 7 i ≤ 4 := this
    split
    · rename_i c
      have := cg i c
      omega
    · exact this
  · rw [w5]
    have := hI.G.2.1 i
    split
    · rename_i c
      have := cg i c
      have := hI.G.2.2.1 i (by omega)
      omega
    · exact this
  · rw [w5, w7, hI.G.2.2.1 g hg]
  · rw [w7, if_neg (fun c => by have := cg g c; omega)]
    exact hI.G.2.2.2 g hg hz
theorem q_snap {σ : GS} {K : Int → Int → GS → Prop} (hI : Inv σ) (hK : ∀ z σ', rg z → Inv σ' → K z z σ') : vc_X9_snap σ (fun z σ1 => vc_X10_snap σ1 (fun z' σ2 => K z z' σ2)) := by
  unfold vc_X9_snap
  have hA := hI.A
  have hF := hI.F
  have h11 : 0 ≤ σ 51 11 ∧ σ 51 11 ≤ 14 := by rw [hA.2.1]; exact hA.1
  refine s_X0_remember hA.1 (fun σ1 r => s_X2_sum (Or.inl rfl) (s_X2_clear (Or.inl rfl) ?_))
  have e : ∀ c, c ≠ 23 → ¬ (25 ≤ c ∧ c ≤ 38) → σ1 c = σ c := r.1
  have e3 := e 3 (by decide) (by omega)
  have e4 := e 4 (by decide) (by omega)
  have e7 : σ1 (6 + 1) = σ 7 := e 7 (by decide) (by omega)
  have e51 := e 51 (by decide) (by omega)
  have e52 := e 52 (by decide) (by omega)
  have e54 := e 54 (by decide) (by omega)
  rw [e7]
  have x : ∀ c, c ≠ 7 → upR σ1 (6 + 1) (z5 (σ 7)) c = σ1 c := fun c hc => upR_n _ _ hc
  have x7 : upR σ1 (6 + 1) (z5 (σ 7)) 7 = z5 (σ 7) := upR_s _ _ _
  generalize upR σ1 (6 + 1) (z5 (σ 7)) = σ2 at x x7
  have y51 : σ2 51 = σ 51 := by rw [x 51 (by decide), e51]
  have y52 : σ2 52 = σ 52 := by rw [x 52 (by decide), e52]
  have y54 : σ2 54 = σ 54 := by rw [x 54 (by decide), e54]
  unfold vc_X10_snap
  refine s_X10_keepAct (by rw [y51]; exact h11) (by rw [y51]; exact hA.2.2.1) (fun σ3 k => ?_)
  have z54' : σ3 54 = σ 54 := by rw [k.1.1 54 (by decide) (by decide), y54]
  have z52 : σ3 52 = σ 52 := by rw [k.1.1 52 (by decide) (by decide), y52]
  have z51 : σ3 51 0 = σ 51 0 := by rw [k.1.2 0 (by decide), y51]
  have z7 : σ3 7 = z5 (σ 7) := by rw [k.1.1 7 (by decide) (by decide), x7]
  refine s_X10_gapsOf (L := 0) (by unfold FanM; rw [z51, z52]; exact hF.2.1) (by decide) (s_X10_snapOn (L := 0) (by decide) ?_)
  have es : sm (gm σ3 0) (gN σ3) = sm (σ 7) 5 := by
    rw [(sum_eq hF hI.G).1]
    unfold gN gm
    rw [z51, z54']
  rw [es]
  refine hK _ _ (sum_eq hF hI.G).2 (inv_act hI r x k (fun c hc => upR_n _ _ hc) ?_)
  unfold iG GR GM gz
  rw [upR_s, upR_n _ _ (by decide), upR_n _ _ (by decide), upR_n _ _ (by decide), z7, k.1.1 3 (by decide) (by decide), k.1.1 4 (by decide) (by decide), x 3 (by decide), x 4 (by decide), e3, e4]
  unfold z54 z5
  rw [z54']
  refine ⟨fun i => ?_, fun i => ?_, fun g hg => ?_, fun g hg hz => ?_⟩
  · split
    · omega
    · exact hI.G.1 i
  · split
    · omega
    · exact hI.G.2.1 i
  · rw [if_pos (by omega), if_pos hg]
  · rw [if_pos hg]
/-- undo -/
theorem q_undo {σ : GS} {K : Int → Int → GS → Prop} (hI : Inv σ) (hK : ∀ z σ', rg z → Inv σ' → K z z σ') : vc_X9_undo σ (fun z σ1 => vc_X10_undo σ1 (fun z' σ2 => K z z' σ2)) := by
  unfold vc_X9_undo vc_X0_takeBack
  have hA := hI.A
  have hF := hI.F
  have a1 := hA.1
  have a2 := hA.2.2.1
  have e23 : ∀ v : Int, (up2 σ 23 1 v) 23 1 = v := fun v => by rw [up2_s, up1_s]
  refine ⟨Or.inl rfl, by omega, fun h => ?_, fun h => ⟨by decide, fun _ => ?_, fun c => absurd rfl c⟩⟩
  · rw [e23]
    obtain ⟨m, hm⟩ := Int.eq_ofNat_of_zero_le (show 0 ≤ σ 23 1 - 1 by omega)
    rw [hm, Int.toNat_natCast]
    refine ⟨by omega, Or.inl rfl, lay_act m (by omega), by decide, fun c => absurd c (by decide), fun _ => ?_⟩
    unfold vc_X0_size vc_X10_undo
    dsimp only
    obtain ⟨b1, b2, b3⟩ := hA.2.2.2 m (by omega)
    have x : ∀ c, c ≠ 7 → c ≠ 23 → upR (up2 σ 23 1 m) (6 + 1) (cp ((up2 σ 23 1 m) (25 + m)) ((up2 σ 23 1 m) (6 + 1)) (5 : Int).toNat) c = σ c := fun c h1 h2 => by rw [upR_n _ _ h1, up2_n _ _ _ h2]
    have x7 : upR (up2 σ 23 1 m) (6 + 1) (cp ((up2 σ 23 1 m) (25 + m)) ((up2 σ 23 1 m) (6 + 1)) (5 : Int).toNat) 7 = cp (σ (25 + m)) (σ 7) 5 := by
      rw [show 6 + 1 = 7 from rfl, upR_s, up2_n _ _ _ (by omega), up2_n _ _ _ (by omega)]
      rfl
    have x23 : upR (up2 σ 23 1 m) (6 + 1) (cp ((up2 σ 23 1 m) (25 + m)) ((up2 σ 23 1 m) (6 + 1)) (5 : Int).toNat) 23 1 = m := by
      rw [upR_n _ _ (by decide), up2_s, up1_s]
    generalize upR (up2 σ 23 1 m) (6 + 1) (cp ((up2 σ 23 1 m) (25 + m)) ((up2 σ 23 1 m) (6 + 1)) (5 : Int).toNat) = σ2 at x x7 x23
    have y51 := x 51 (by decide) (by decide)
    have e51 : ∀ v : Int, up2 σ2 51 11 v 51 12 = σ 51 12 := fun v => by rw [up2_s, up1_n _ _ (by decide), y51]
    rw [y51, hA.2.1, e51, x23, hm]
    refine ⟨by omega, fun c => ⟨by omega, ?_⟩, fun c => absurd c (by omega)⟩
    have f0 : fr [54] [11, 12] σ2 (up2 (up2 σ2 51 11 m) 51 12 ((σ 51 12 + 13) % 14)) := fr.u5 (fr.u5 fr.rf (by decide)) (by decide)
    refine ⟨fun n v σ4 => ∃ i : Nat, i ≤ 5 ∧ n = 5 - i ∧ v = i ∧ fr [54] [11, 12] σ2 σ4 ∧ σ4 51 11 = m ∧ σ4 51 12 = (σ 51 12 + 13) % 14 ∧ ∀ j : Nat, σ4 54 j = if j < i then σ 59 (5 * ((σ 51 12 + 13) % 14).toNat + j) else σ 54 j, ⟨5, 0, by omega, by omega, rfl, f0, ?_, ?_, fun j => ?_⟩, ?_⟩
    · rw [up2_s, up1_n _ _ (by decide), up2_s, up1_s]
    · rw [up2_s, up1_s]
    · rw [up2_n _ _ _ (by decide), up2_n _ _ _ (by decide), x 54 (by decide) (by decide), if_neg (by omega)]
    · rintro n v σ4 ⟨i, h1, h2, rfl, f, h3, h4, h5⟩
      refine ⟨by omega, fun q => ?_, fun q => ⟨by rw [h4]; omega, by omega, 5 - (i + 1), by omega, i + 1, by omega, rfl, rfl, fr.u2 f (by decide) (by decide), h3, h4, fun j => ?_⟩⟩
      · rw [h3]
        have e5 : i = 5 := by omega
        subst e5
        have c4 : ∀ c, c ≠ 51 → c ∉ [7, 23, 54] → σ4 c = σ c := by
          intro c hc hd
          simp only [List.mem_cons, List.not_mem_nil, or_false, not_or] at hd
          rw [f.1 c hc (by simp; omega), x c (by omega) (by omega)]
        have F : fr [7, 23, 54] [11, 12] σ σ4 := ⟨c4, fun j hj => by rw [f.2 j hj, y51]⟩
        have y7 : σ4 7 = cp (σ (25 + m)) (σ 7) 5 := by rw [f.1 7 (by decide) (by decide), x7]
        have y23 : σ4 23 1 = m := by rw [f.1 23 (by decide) (by decide), x23]
        have rpm : rp (σ 51 12) (σ 23 1) m = ((σ 51 12 + 13) % 14).toNat := by unfold rp; omega
        refine hK _ _ (by omega) ⟨hI.T.fr F (by decide), hI.F.fr F (by decide), ?_, hI.W.fr F (by decide), ?_, hI.S.fr F (by decide), hI.P.fr F (by decide), hI.E.fr F (by decide), hI.V.fr F (by decide)⟩
        · unfold iG GR GM gz
          rw [y7, c4 3 (by decide) (by decide), c4 4 (by decide) (by decide)]
          refine ⟨fun i => ?_, fun i => ?_, fun g hg => ?_, fun g hg hz => ?_⟩
          · unfold cp
            split
            · rename_i q; exact b2 i q
            · exact hI.G.1 i
          · rw [h5]
            split
            · rename_i q
              rw [← rpm, ← b1 i q]
              exact b2 i q
            · exact hI.G.2.1 i
          · rw [h5, if_pos hg, cp_lt hg, ← rpm, ← b1 g hg]
          · rw [cp_lt hg]; exact b3 g hg hz
        · unfold iA gz
          rw [y23, h3, h4, c4 3 (by decide) (by decide), c4 4 (by decide) (by decide), c4 59 (by decide) (by decide)]
          refine ⟨by omega, rfl, by omega, fun i hi => ?_⟩
          rw [c4 (25 + i) (by omega) (by simp; omega)]
          have := hA.2.2.2 i (by omega)
          rw [show rp ((σ 51 12 + 13) % 14) m i = rp (σ 51 12) (σ 23 1) i by unfold rp; omega]
          exact this
      · rw [h4, f.1 59 (by decide) (by decide), x 59 (by decide) (by decide), up2_s, Int.toNat_natCast]
        by_cases c : j = i
        · rw [c, up1_s, if_pos (by omega)]
          congr 1
          omega
        · rw [up1_n _ _ c, h5]
          by_cases d : j < i
          · rw [if_pos d, if_pos (by omega)]
          · rw [if_neg d, if_neg (by omega)]
  · unfold vc_X10_undo
    dsimp only
    rw [hA.2.1]
    exact ⟨by omega, fun c => absurd c (by omega), fun c => hK _ _ (by decide) hI⟩
/-- keep -/
theorem s_X4_has {σ : GS} {a : Int} {Post : Int → Prop} (ha : rg a) (hp : Post (bi (a = 0 ∨ a = 1))) : vc_X4_has σ a Post := by
  unfold vc_X4_has
  exact ⟨ha, fun h => pf (by omega) hp, fun h => ⟨fun h2 => pf (by omega) hp, fun h2 => pt (by omega) hp⟩⟩
theorem q_keep {σ : GS} {a0 : Int} {K : Int → Int → GS → Prop} (hI : Inv σ) (h0 : rg a0) (hK : ∀ z σ', rg z → Inv σ' → K z z σ') : vc_X9_keep σ a0 (fun z σ1 => vc_X10_keep σ1 a0 (fun z' σ2 => K z z' σ2)) := by
  unfold vc_X9_keep vc_X4_store
  have hS := hI.S
  have hF := hI.F
  refine ⟨Or.inl rfl, s_X4_has h0 (bi_ne (fun p => ⟨by omega, ?_⟩) (fun p => ⟨by decide, fun _ => ?_, fun c => absurd rfl c⟩))⟩
  · obtain ⟨a, rfl⟩ := Int.eq_ofNat_of_zero_le (show 0 ≤ a0 by omega)
    rw [Int.toNat_natCast]
    refine ⟨Or.inl rfl, lay_slot a (by omega), by decide, fun c => absurd c (by decide), fun _ => s_X2_sum (Or.inl rfl) ?_⟩
    have x : ∀ c, c ≠ 43 → c ≠ 41 + a → up2 (upR σ (41 + a) (cp (σ (6 + 1)) (σ (41 + a)) (5 : Int).toNat)) 43 a 1 c = σ c := fun c h1 h2 => by rw [up2_n _ _ _ h1, upR_n _ _ h2]
    have x41 : up2 (upR σ (41 + a) (cp (σ (6 + 1)) (σ (41 + a)) (5 : Int).toNat)) 43 a 1 (41 + a) = cp (σ 7) (σ (41 + a)) 5 := by rw [up2_n _ _ _ (by omega), upR_s]; rfl
    have x43 : up2 (upR σ (41 + a) (cp (σ (6 + 1)) (σ (41 + a)) (5 : Int).toNat)) 43 a 1 43 = up1 (σ 43) a 1 := by rw [up2_s, upR_n _ _ (by omega)]
    generalize up2 (upR σ (41 + a) (cp (σ (6 + 1)) (σ (41 + a)) (5 : Int).toNat)) 43 a 1 = σ2 at x x41 x43
    have x7 : σ2 (6 + 1) = σ 7 := x 7 (by decide) (by omega)
    rw [x7]
    unfold vc_X10_keep
    refine ⟨h0, s_X10_in (rl h0) (by decide) (by decide) (bi_ne (fun _ => ⟨by omega, ?_⟩) (fun c => absurd c (by omega)))⟩
    rw [Int.toNat_natCast]
    refine ⟨fun n v σ4 => ∃ i : Nat, i ≤ 5 ∧ n = 5 - i ∧ v = i ∧ fr [63, 64] [] σ2 σ4 ∧ σ4 63 = up1 (σ 63) a 1 ∧ ∀ j : Nat, σ4 64 j = if 5 * a ≤ j ∧ j < 5 * a + i then σ 54 (j - 5 * a) else σ 64 j, ⟨5, 0, by omega, by omega, rfl, fr.u2 fr.rf (by decide) (by decide), ?_, fun j => ?_⟩, ?_⟩
    · rw [up2_s, x 63 (by decide) (by omega)]
    · rw [up2_n _ _ _ (by decide), x 64 (by decide) (by omega), if_neg (by omega)]
    · rintro n v σ4 ⟨i, h1, h2, rfl, f, h3, h4⟩
      have y54 : σ4 54 = σ 54 := by rw [f.1 54 (by decide) (by decide), x 54 (by decide) (by omega)]
      refine ⟨by omega, fun q => ?_, fun q => ⟨by omega, by omega, 5 - (i + 1), by omega, i + 1, by omega, rfl, rfl, fr.u2 f (by decide) (by decide), h3, fun j => ?_⟩⟩
      · have e5 : i = 5 := by omega
        subst e5
        have c4 : ∀ c, c ≠ 51 → c ∉ [41, 42, 43, 63, 64] → σ4 c = σ c := by
          intro c hc hd
          simp only [List.mem_cons, List.not_mem_nil, or_false, not_or] at hd
          rw [f.1 c hc (by simp; omega), x c (by omega) (by omega)]
        have F : fr [41, 42, 43, 63, 64] [] σ σ4 := ⟨c4, fun j hj => by rw [f.2 j hj, x 51 (by decide) (by omega)]⟩
        have hF4 := hI.F.fr F (by decide)
        have hG4 := hI.G.fr F (by decide)
        refine s_X10_gapsOf (L := 0) hF4.2.1 (by decide) ?_
        have y7 : σ4 7 = σ 7 := c4 7 (by decide) (by decide)
        rw [← (sum_eq hF4 hG4).1, y7]
        refine hK _ _ (sum_eq hF hI.G).2 ⟨hI.T.fr F (by decide), hF4, hG4, hI.W.fr F (by decide), hI.A.fr F (by decide), ?_, hI.P.fr F (by decide), hI.E.fr F (by decide), hI.V.fr F (by decide)⟩
        intro t ht
        unfold gz
        rw [c4 3 (by decide) (by decide), c4 4 (by decide) (by decide), h3, f.1 43 (by decide) (by decide), x43]
        by_cases e : t = a
        · subst e
          rw [up1_s, up1_s, f.1 (41 + t) (by omega) (by simp; omega), x41]
          refine ⟨Or.inr rfl, rfl, fun _ => ⟨fun g hg => ?_, fun g hg => ?_, fun g hg hz => ?_⟩⟩
          · rw [cp_lt hg, h4, if_pos (by omega), show 5 * t + g - 5 * t = g by omega]
            exact (hI.G.2.2.1 g hg).symm
          · rw [cp_lt hg]; exact hI.G.1 g
          · rw [cp_lt hg]; exact hI.G.2.2.2 g hg hz
        · rw [up1_n _ _ e, up1_n _ _ e, f.1 (41 + t) (by omega) (by simp; omega), x (41 + t) (by omega) (by omega)]
          obtain ⟨s1, s2, s3⟩ := hS t ht
          refine ⟨s1, s2, fun h => ⟨fun g hg => ?_, (s3 h).2.1, (s3 h).2.2⟩⟩
          rw [h4, if_neg (by omega)]
          exact (s3 h).1 g hg
      · rw [y54, up2_s, show (5 * (a : Int) + (i : Int)).toNat = 5 * a + i by omega, Int.toNat_natCast]
        by_cases c : j = 5 * a + i
        · rw [c, up1_s, if_pos (by omega), show 5 * a + i - 5 * a = i by omega]
        · rw [up1_n _ _ c, h4]
          by_cases d : 5 * a ≤ j ∧ j < 5 * a + i
          · rw [if_pos d, if_pos (by omega)]
          · rw [if_neg d, if_neg (by omega)]
  · unfold vc_X10_keep
    exact ⟨h0, s_X10_in (rl h0) (by decide) (by decide) (bi_ne (fun c => absurd c (by omega)) (fun _ => hK _ _ (by decide) hI))⟩
theorem q_again {σ : GS} {a0 : Int} {K : Int → Int → GS → Prop} (hI : Inv σ) (h0 : rg a0) (hK : ∀ z σ', rg z → Inv σ' → K z z σ') : vc_X9_again σ a0 (fun z σ1 => vc_X10_again σ1 a0 (fun z' σ2 => K z z' σ2)) := by
  unfold vc_X9_again vc_X4_restore
  have hF := hI.F
  refine s_X4_has h0 (bi_ne (fun p => ⟨Or.inl rfl, s_X4_has h0 (bi_eq (fun c => absurd p c) (fun _ => ⟨by omega, ?_⟩))⟩) (fun p => ?_))
  · obtain ⟨a, rfl⟩ := Int.eq_ofNat_of_zero_le (show 0 ≤ a0 by omega)
    rw [Int.toNat_natCast]
    obtain ⟨s1, s2, s3⟩ := hI.S a (by omega)
    refine ⟨by omega, fun c => ⟨Or.inl rfl, lay_slot a (by omega), by decide, fun _ => s_X2_sum (Or.inl rfl) ?_, fun c => absurd c (by decide)⟩, fun c => ⟨by decide, fun c => absurd rfl c, fun _ => ?_⟩⟩
    · obtain ⟨b1, b2, b3⟩ := s3 (by omega)
      have x : ∀ c, c ≠ 23 → c ≠ 7 → up2 (upR σ (6 + 1) (cp (σ (41 + a)) (σ (6 + 1)) (5 : Int).toNat)) 23 1 0 c = σ c := fun c h1 h2 => by rw [up2_n _ _ _ h1, upR_n _ _ h2]
      have x7 : up2 (upR σ (6 + 1) (cp (σ (41 + a)) (σ (6 + 1)) (5 : Int).toNat)) 23 1 0 (6 + 1) = cp (σ (41 + a)) (σ 7) 5 := by rw [up2_n _ _ _ (by omega), upR_s]; rfl
      have x23 : up2 (upR σ (6 + 1) (cp (σ (41 + a)) (σ (6 + 1)) (5 : Int).toNat)) 23 1 0 23 1 = 0 := by rw [up2_s, up1_s]
      generalize up2 (upR σ (6 + 1) (cp (σ (41 + a)) (σ (6 + 1)) (5 : Int).toNat)) 23 1 0 = σ2 at x x7 x23
      unfold vc_X10_again
      refine ⟨h0, s_X10_in (rl h0) (by decide) (by decide) (bi_ne (fun _ => ⟨by omega, ?_⟩) (fun c => absurd c (by omega)))⟩
      rw [Int.toNat_natCast, x 63 (by decide) (by decide), s2]
      refine ⟨by omega, fun _ => ?_, fun d => absurd d c⟩
      refine ⟨fun n v σ4 => ∃ i : Nat, i ≤ 5 ∧ n = 5 - i ∧ v = i ∧ fr [54] [] σ2 σ4 ∧ ∀ j : Nat, σ4 54 j = if j < i then σ 64 (5 * a + j) else σ 54 j, ⟨5, 0, by omega, by omega, rfl, fr.rf, fun j => ?_⟩, ?_⟩
      · rw [x 54 (by decide) (by decide), if_neg (by omega)]
      · rintro n v σ4 ⟨i, h1, h2, rfl, f, h4⟩
        have y64 : σ4 64 = σ 64 := by rw [f.1 64 (by decide) (by decide), x 64 (by decide) (by decide)]
        refine ⟨by omega, fun q => ?_, fun q => ⟨by omega, by omega, 5 - (i + 1), by omega, i + 1, by omega, rfl, rfl, fr.u2 f (by decide) (by decide), fun j => ?_⟩⟩
        · have e5 : i = 5 := by omega
          subst e5
          have c4 : ∀ c, c ≠ 51 → c ∉ [7, 23, 54] → up2 σ4 51 11 0 c = σ c := by
            intro c hc hd
            simp only [List.mem_cons, List.not_mem_nil, or_false, not_or] at hd
            rw [up2_n _ _ _ hc, f.1 c hc (by simp; omega), x c (by omega) (by omega)]
          have F : fr [7, 23, 54] [11] σ (up2 σ4 51 11 0) := ⟨c4, fun j hj => by rw [up2_s, up1_n _ _ (by simp at hj; exact hj), f.2 j (by simp), x 51 (by decide) (by decide)]⟩
          have y7 : up2 σ4 51 11 0 7 = cp (σ (41 + a)) (σ 7) 5 := by rw [up2_n _ _ _ (by decide), f.1 7 (by decide) (by decide)]; exact x7
          have y54 : up2 σ4 51 11 0 54 = σ4 54 := by rw [up2_n _ _ _ (by decide)]
          have y23 : up2 σ4 51 11 0 23 1 = 0 := by rw [up2_n _ _ _ (by decide), f.1 23 (by decide) (by decide), x23]
          have y11 : up2 σ4 51 11 0 51 11 = 0 := by rw [up2_s, up1_s]
          have y12 : up2 σ4 51 11 0 51 12 = σ 51 12 := F.2 12 (by decide)
          have hF4 := hI.F.fr F (by decide)
          have hG4 : iG (up2 σ4 51 11 0) := by
            unfold iG GR GM gz
            rw [y7, y54, c4 3 (by decide) (by decide), c4 4 (by decide) (by decide)]
            refine ⟨fun i => ?_, fun i => ?_, fun g hg => ?_, fun g hg hz => ?_⟩
            · unfold cp
              split
              · rename_i q; exact b2 i q
              · exact hI.G.1 i
            · rw [h4]
              split
              · rename_i q
                rw [← b1 i q]
                exact b2 i q
              · exact hI.G.2.1 i
            · rw [h4, if_pos hg, cp_lt hg, ← b1 g hg]
            · rw [cp_lt hg]; exact b3 g hg hz
          refine s_X10_gapsOf (L := 0) hF4.2.1 (by decide) ?_
          have es := sum_eq hF4 hG4
          rw [← es.1, x7]
          rw [y7] at es ⊢
          refine hK _ _ es.2 ⟨hI.T.fr F (by decide), hF4, hG4, hI.W.fr F (by decide), ?_, hI.S.fr F (by decide), hI.P.fr F (by decide), hI.E.fr F (by decide), hI.V.fr F (by decide)⟩
          unfold iA
          rw [y23, y11, y12]
          exact ⟨by decide, rfl, hI.A.2.2.1, fun i hi => by omega⟩
        · rw [y64, up2_s, show (5 * (a : Int) + (i : Int)).toNat = 5 * a + i by omega, Int.toNat_natCast]
          by_cases c : j = i
          · rw [c, up1_s, if_pos (by omega)]
          · rw [up1_n _ _ c, h4]
            by_cases d : j < i
            · rw [if_pos d, if_pos (by omega)]
            · rw [if_neg d, if_neg (by omega)]
    · unfold vc_X10_again
      refine ⟨h0, s_X10_in (rl h0) (by decide) (by decide) (bi_ne (fun _ => ⟨by omega, ?_⟩) (fun c => absurd c (by omega)))⟩
      rw [Int.toNat_natCast, s2]
      exact ⟨by omega, fun d => absurd c d, fun _ => hK _ _ (by decide) hI⟩
  · unfold vc_X10_again
    exact ⟨h0, s_X10_in (rl h0) (by decide) (by decide) (bi_ne (fun c => absurd c (by omega)) (fun _ => hK _ _ (by decide) hI))⟩
