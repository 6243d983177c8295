theorem cnt_pos {P : Nat → Prop} [DecidablePred P] {i : Nat} : ∀ {n : Nat}, i < n → P i → 1 ≤ cnt P n
  | 0, h, _ => absurd h (Nat.not_lt_zero i)
  | n + 1, h, q => by
      have hr := cnt_rg P n
      show 1 ≤ cnt P n + (if P n then 1 else 0)
      by_cases e : i = n
      · subst e; rw [if_pos q]; omega
      · have := cnt_pos (n := n) (by omega) q
        split <;> omega
theorem q_fan {σ : GS} {K : Int → Int → GS → Prop} (hI : Inv σ) (hK : ∀ z σ', rg z → Inv σ' → K z z σ') : vc_X9_fan σ (fun z σ1 => vc_X10_fan σ1 (fun z' σ2 => K z z' σ2)) := by
  have h1 := hI.T.1
  obtain ⟨n, hn⟩ := Int.eq_ofNat_of_zero_le h1.1
  have hg := ff_rg (σ 2) (n := n) (by omega)
  have hx := ff_XM hI.T hn
  unfold vc_X9_fan
  refine s_X3_firstFault hI.T hn ⟨by omega, fun e => ?_, fun e => ?_⟩
  · -- a fan is taken
    have hall : ∀ j, j < n → ok (σ 2 j) j := by
      intro j hj
      rcases Classical.em (∃ i, i < n ∧ ¬ ok (σ 2 i) i) with ⟨i, hi, q⟩ | q
      · exfalso
        have hf := fnd_rg (fun i => ¬ ok (σ 2 i) i) n
        unfold ff at e
        split at e
        · omega
        · rename_i z
          have : fnd (fun i => ¬ ok (σ 2 i) i) n = -9 := by omega
          have c0 := (cnt_fnd (fun i => ¬ ok (σ 2 i) i) n).mpr this
          have c1 := cnt_pos (P := fun i => ¬ ok (σ 2 i) i) hi q
          omega
      · by_cases c : ok (σ 2 j) j
        · exact c
        · exact absurd ⟨j, hj, c⟩ q
    have en : n % 10 = 1 := by
      rw [ff_none hall] at e
      split at e
      · assumption
      · omega
    have hn61 : n ≤ 61 := by
      have q := (hall (n - 1) (by omega)).2
      by_cases z : n = 1
      · omega
      · have := (q (by omega)).1
        omega
    obtain ⟨N, hN⟩ : ∃ N, n = 10 * N + 1 := ⟨n / 10, by omega⟩
    have hN6 : N ≤ 6 := by omega
    subst hN
    refine s_X1_take hN6 hn (fun σ1 f1 a3 a4 a5 => s_X2_clear (Or.inl rfl) ?_)
    show vc_X4_clear (up2 (upR σ1 (6 + 1) (z5 (σ1 (6 + 1)))) 23 1 0) _
    refine s_X4_clear (fun σ4 f4 a43 => ?_)
    have F4 : fr [3, 4, 5, 7, 23, 43] [] σ σ4 := fr.tr (fr.u2 (fr.uR (f1.mono (by simp +contextual) (by simp)) (by decide) (by decide)) (by decide) (by decide)) (f4.mono (by simp +contextual) (by simp))
    have b3 : σ4 3 2 = N := by rw [f4.1 3 (by decide) (by decide), up2_n _ _ _ (by decide), upR_n _ _ (by decide), a3]
    have b4 : ∀ b : Nat, σ4 4 b = if b < N then σ 2 (10 * b + 2) - 48 else σ 4 b := fun b => by rw [f4.1 4 (by decide) (by decide), up2_n _ _ _ (by decide), upR_n _ _ (by decide), a4]
    have b5 : ∀ i : Nat, σ4 5 i = if i < 8 * N then σ 2 (10 * (i / 8) + 3 + i % 8) else σ 5 i := fun b => by rw [f4.1 5 (by decide) (by decide), up2_n _ _ _ (by decide), upR_n _ _ (by decide), a5]
    have b7 : ∀ i : Nat, σ4 7 i = if i < 5 then 0 else σ 7 i := fun i => by
      rw [f4.1 7 (by decide) (by decide), up2_n _ _ _ (by decide), show 6 + 1 = 7 from rfl, upR_s, f1.1 7 (by decide) (by decide)]
      rfl
    have b23 : σ4 23 1 = 0 := by rw [f4.1 23 (by decide) (by decide), up2_s, up1_s]
    have T4 := hI.T.fr F4 (by decide)
    have n4 : σ4 1 1 = ((10 * N + 1 : Nat) : Int) := by rw [F4.1 1 (by decide) (by decide)]; exact hn
    have e57 : σ4 57 = σ 57 := F4.1 57 (by decide) (by decide)
    have R4 : (∀ j, 0 ≤ σ4 55 j ∧ σ4 55 j ≤ 3) ∧ ∀ j, 0 ≤ σ4 56 j ∧ σ4 56 j ≤ 25 := by
      rw [F4.1 55 (by decide) (by decide), F4.1 56 (by decide) (by decide)]; exact hI.F.2.2.2.2.2.2.2
    show vc_X10_fan σ4 (fun z' σ2 => K (σ4 3 2) z' σ2)
    refine s_X10_fan T4 R4 n4 (fun c => absurd (by rw [e57, hx]; exact e) c) (fun _ σ5 σ6 _ _ rj F6 c0 c11 c55 c56 c52 c53 c54 c63 => ?_)
    have r6 : σ5 51 6 = N := by rw [rj.2.2.1]; omega
    rw [r6] at c0
    rw [r6, b3]
    have F : fr [3, 4, 5, 7, 23, 43, 52, 53, 54, 55, 56, 63] [0, 6, 11] σ σ6 := fr.tr (F4.mono (by simp +contextual) (by simp)) (F6.mono (by simp +contextual) (by simp))
    have d3 : σ6 3 2 = N := by rw [F6.1 3 (by decide) (by decide), b3]
    have d4 : ∀ b : Nat, σ6 4 b = if b < N then σ 2 (10 * b + 2) - 48 else σ 4 b := fun b => by rw [F6.1 4 (by decide) (by decide), b4]
    have d5 : ∀ i : Nat, σ6 5 i = if i < 8 * N then σ 2 (10 * (i / 8) + 3 + i % 8) else σ 5 i := fun b => by rw [F6.1 5 (by decide) (by decide), b5]
    have d7 : ∀ i : Nat, σ6 7 i = if i < 5 then 0 else σ 7 i := fun i => by rw [F6.1 7 (by decide) (by decide), b7]
    have t57 : ∀ q : Nat, q < 10 * N + 1 → σ4 57 q = σ 2 q := fun q hq => by rw [e57]; exact hI.T.2.2.2 q (by omega)
    have m52 : ∀ b : Nat, b < N → σ6 52 b = σ 2 (10 * b + 2) - 48 := fun b hb => by
      rw [c52, if_pos (by omega)]
      have := (rj.2.2.2.2 (10 * b + 2) (by omega) (by omega)).1 (by omega)
      rw [show (10 * b + 2 - 1) / 10 = b by omega, t57 _ (by omega)] at this
      exact this
    have m53 : ∀ i : Nat, i < 8 * N → σ6 53 i = σ 2 (10 * (i / 8) + 3 + i % 8) - 97 := fun i hi => by
      rw [c53, if_pos (by omega)]
      have := (rj.2.2.2.2 (10 * (i / 8) + 3 + i % 8) (by omega) (by omega)).2 (by omega)
      rw [t57 _ (by omega), show 8 * ((10 * (i / 8) + 3 + i % 8 - 1) / 10) + (10 * (i / 8) + 3 + i % 8 - 1) % 10 - 2 = i by omega] at this
      exact this
    have kd : ∀ b : Nat, b < N → 48 ≤ σ 2 (10 * b + 2) ∧ σ 2 (10 * b + 2) ≤ 51 := fun b hb => by
      have := ((hall (10 * b + 2) (by omega)).2 (by omega)).2.2.1 (by omega)
      exact this
    have hr := rj.2.2.2.1
    refine hK _ _ (by omega) ⟨hI.T.fr F (by decide), ?_, ?_, hI.W.fr F (by decide), ?_, ?_, hI.P.fr F (by decide), hI.E.fr F (by decide), hI.V.fr F (by decide)⟩
    · unfold iF FanR FanM
      rw [d3, c0]
      refine ⟨⟨by omega, fun i => ?_⟩, ⟨by omega, fun i => ?_⟩, rfl, fun i hi => ?_, fun i => ?_, fun i => ?_, fun i hi => ?_, by rw [c55]; exact hr.1, by rw [c56]; exact hr.2⟩
      · rw [d4]
        split
        · rename_i q
          have := kd i q
          omega
        · exact hI.F.1.2 i
      · rw [c52]
        split
        · exact hr.1 i
        · rw [F4.1 52 (by decide) (by decide)]; exact hI.F.2.1.2 i
      · rw [m52 i (by omega), d4, if_pos (by omega)]
      · rw [d5]
        split
        · exact hI.T.2.2.1 _
        · exact hI.F.2.2.2.2.1 i
      · rw [c53]
        split
        · exact hr.2 i
        · rw [F4.1 53 (by decide) (by decide)]; exact hI.F.2.2.2.2.2.1 i
      · rw [m53 i (by omega), d5, if_pos (by omega)]
        omega
    · refine ⟨fun i => ?_, fun i => ?_, fun g hg => ?_, fun g hg _ => ?_⟩
      · rw [d7]
        split
        · decide
        · exact hI.G.1 i
      · rw [c54]
        split
        · decide
        · rw [F4.1 54 (by decide) (by decide)]; exact hI.G.2.1 i
      · rw [c54, d7, if_pos hg, if_pos hg]
      · rw [d7, if_pos hg]
    · unfold iA
      rw [F6.1 23 (by decide) (by decide), b23, c11, F.2 12 (by decide)]
      exact ⟨by decide, rfl, hI.A.2.2.1, fun i hi => by omega⟩
    · intro t ht
      have z43 : σ6 43 t = 0 := by rw [F6.1 43 (by decide) (by decide)]; exact a43 t ht
      rw [z43, c63 t ht]
      exact ⟨Or.inl rfl, rfl, fun q => absurd q (by decide)⟩
  · refine s_X10_fan hI.T hI.F.2.2.2.2.2.2.2 hn (fun _ σ' f r => hK _ _ (by decide) (inv_text hI f r)) (fun c => absurd (by rw [hx] at c; exact c) e)
