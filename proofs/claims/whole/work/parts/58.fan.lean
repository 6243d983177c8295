/-! ===== fault and fan ===== -/
theorem ff_XM {σ : GS} (hT : iT σ) {n : Nat} (hn : σ 1 1 = n) : ff (σ 57) n = ff (σ 2) n := by
  have e : fnd (fun i => ¬ ok (σ 57 i) i) n = fnd (fun i => ¬ ok (σ 2 i) i) n := fnd_congr (fun k hk => by rw [hT.2.2.2 k (by omega)])
  unfold ff
  rw [e]
theorem iF_text {σ σ' : GS} (h : iF σ) (f : fr [55, 56] [6] σ σ') (r : (∀ j, 0 ≤ σ' 55 j ∧ σ' 55 j ≤ 3) ∧ ∀ j, 0 ≤ σ' 56 j ∧ σ' 56 j ≤ 25) : iF σ' := by
  unfold iF FanR FanM LtX LtM
  rw [f.1 3 (by decide) (by decide), f.1 4 (by decide) (by decide), f.1 5 (by decide) (by decide), f.1 52 (by decide) (by decide), f.1 53 (by decide) (by decide), f.2 0 (by decide)]
  exact ⟨h.1, h.2.1, h.2.2.1, h.2.2.2.1, h.2.2.2.2.1, h.2.2.2.2.2.1, h.2.2.2.2.2.2.1, r.1, r.2⟩
theorem inv_text {σ σ' : GS} (hI : Inv σ) (f : fr [55, 56] [6] σ σ') (r : (∀ j, 0 ≤ σ' 55 j ∧ σ' 55 j ≤ 3) ∧ ∀ j, 0 ≤ σ' 56 j ∧ σ' 56 j ≤ 25) : Inv σ' :=
  ⟨hI.T.fr f (by decide), iF_text hI.F f r, hI.G.fr f (by decide), hI.W.fr f (by decide), hI.A.fr f (by decide), hI.S.fr f (by decide), hI.P.fr f (by decide), hI.E.fr f (by decide), hI.V.fr f (by decide)⟩
theorem q_fault {σ : GS} {K : Int → Int → GS → Prop} (hI : Inv σ) (hK : ∀ z σ', rg z → Inv σ' → K z z σ') : vc_X9_fault σ (fun z => vc_X10_fault σ (fun z' σ2 => K z z' σ2)) := by
  have h1 := hI.T.1
  obtain ⟨n, hn⟩ := Int.eq_ofNat_of_zero_le h1.1
  refine s_X3_firstFault hI.T hn (s_X10_readText hI.T hI.F.2.2.2.2.2.2.2 hn (fun σ' f r _ => ?_))
  rw [ff_XM hI.T hn]
  have := ff_rg (σ 2) (n := n) (by omega)
  exact hK _ _ (by omega) (inv_text hI f r)
theorem s_X3_at {σ : GS} {q n : Nat} {Post : Int → Prop} (hn : σ 1 1 = n) (hn64 : n ≤ 64) (hq : q < n) (hp : Post (σ 2 q)) : vc_X3_at σ q Post := by
  unfold vc_X3_at
  exact ⟨by omega, fun c => absurd c (by omega), fun _ => ⟨by omega, fun c => absurd c (by omega), fun _ => ⟨by omega, by rw [Int.toNat_natCast]; exact hp⟩⟩⟩
theorem s_X1_take {σ : GS} {N : Nat} {Post : GS → Prop} (hN : N ≤ 6) (hn : σ 1 1 = ((10 * N + 1 : Nat) : Int)) (hp : ∀ σ', fr [3, 4, 5] [] σ σ' → σ' 3 2 = N → (∀ b : Nat, σ' 4 b = if b < N then σ 2 (10 * b + 2) - 48 else σ 4 b) → (∀ i : Nat, σ' 5 i = if i < 8 * N then σ 2 (10 * (i / 8) + 3 + i % 8) else σ 5 i) → Post σ') : vc_X1_take σ Post := by
  unfold vc_X1_take vc_X3_length
  rw [hn]
  dsimp only
  have e1 : min (((10 * N + 1 : Nat) : Int) / 10) 6 = (N : Int) := by omega
  rw [e1]
  refine ⟨by omega, by omega, ?_⟩
  refine ⟨fun m v σ4 => ∃ b : Nat, b ≤ N ∧ m = N - b ∧ v = b ∧ fr [3, 4, 5] [] σ σ4 ∧ σ4 3 2 = N ∧ (∀ c : Nat, σ4 4 c = if c < b then σ 2 (10 * c + 2) - 48 else σ 4 c) ∧ ∀ i : Nat, σ4 5 i = if i < 8 * b then σ 2 (10 * (i / 8) + 3 + i % 8) else σ 5 i, ⟨N, 0, by omega, by omega, rfl, fr.u2 fr.rf (by decide) (by decide), by rw [up2_s, up1_s], fun c => by rw [up2_n _ _ _ (by decide), if_neg (by omega)], fun i => by rw [up2_n _ _ _ (by decide), if_neg (by omega)]⟩, ?_⟩
  rintro m v σ4 ⟨b, q1, q2, rfl, f, q3, q4, q5⟩
  rw [q3]
  refine ⟨by omega, by omega, fun w => ?_, fun w => ?_⟩
  · have e : b = N := by omega
    subst e
    exact hp σ4 f q3 q4 q5
  · rw [show (1 + 10 * (b : Int) + 1) = ((10 * b + 2 : Nat) : Int) by omega]
    refine s_X3_at (n := 10 * N + 1) (by rw [f.1 1 (by decide) (by decide)]; exact hn) (by omega) (by omega) ⟨by omega, ?_⟩
    rw [f.1 2 (by decide) (by decide), Int.toNat_natCast]
    refine ⟨fun m2 v4 σ5 => ∃ j : Nat, j ≤ 8 ∧ m2 = 8 - j ∧ v4 = j ∧ fr [3, 4, 5] [] σ σ5 ∧ σ5 3 2 = N ∧ (∀ c : Nat, σ5 4 c = if c < b + 1 then σ 2 (10 * c + 2) - 48 else σ 4 c) ∧ ∀ i : Nat, σ5 5 i = if i < 8 * b + j then σ 2 (10 * (i / 8) + 3 + i % 8) else σ 5 i, ⟨8, 0, by omega, by omega, rfl, fr.u2 f (by decide) (by decide), by rw [up2_n _ _ _ (by decide), q3], fun c => ?_, fun i => by rw [up2_n _ _ _ (by decide), q5]; rfl⟩, ?_⟩
    · rw [up2_s]
      by_cases e : c = b
      · subst e; rw [up1_s, if_pos (by omega)]
      · rw [up1_n _ _ e, q4]
        by_cases d : c < b
        · rw [if_pos d, if_pos (by omega)]
        · rw [if_neg d, if_neg (by omega)]
    rintro m2 v4 σ5 ⟨j, r1, r2, rfl, g, r3, r4, r5⟩
    refine ⟨by omega, fun w2 => ?_, fun w2 => ?_⟩
    · refine ⟨N - (b + 1), by omega, b + 1, by omega, rfl, rfl, g, r3, r4, fun i => ?_⟩
      rw [r5, show 8 * b + j = 8 * (b + 1) by omega]
    · rw [show (1 + 10 * (b : Int) + 2 + (j : Int)) = ((10 * b + 3 + j : Nat) : Int) by omega]
      refine s_X3_at (n := 10 * N + 1) (by rw [g.1 1 (by decide) (by decide)]; exact hn) (by omega) (by omega) ⟨by omega, 8 - (j + 1), by omega, j + 1, by omega, rfl, rfl, fr.u2 g (by decide) (by decide), by rw [up2_n _ _ _ (by decide), r3], fun c => by rw [up2_n _ _ _ (by decide)]; exact r4 c, fun i => ?_⟩
      rw [up2_s, g.1 2 (by decide) (by decide), show ((b : Int) * 8 + (j : Int)).toNat = 8 * b + j by omega]
      by_cases e : i = 8 * b + j
      · subst e
        rw [up1_s, if_pos (by omega), show (8 * b + j) / 8 = b by omega, show (8 * b + j) % 8 = j by omega]
      · rw [up1_n _ _ e, r5]
        by_cases d : i < 8 * b + j
        · rw [if_pos d, if_pos (by omega)]
        · rw [if_neg d, if_neg (by omega)]
theorem s_X4_clear {σ : GS} {Post : GS → Prop} (hp : ∀ σ', fr [43] [] σ σ' → (∀ s : Nat, s < 2 → σ' 43 s = 0) → Post σ') : vc_X4_clear σ Post := by
  unfold vc_X4_clear
  refine ⟨fun m v σ1 => ∃ i : Nat, i ≤ 2 ∧ m = 2 - i ∧ v = i ∧ fr [43] [] σ σ1 ∧ ∀ s : Nat, s < i → σ1 43 s = 0, ⟨2, 0, by omega, by omega, rfl, fr.rf, fun s hs => by omega⟩, ?_⟩
  rintro m v σ1 ⟨i, q1, q2, rfl, f, q3⟩
  refine ⟨by omega, fun w => hp σ1 f (fun s hs => q3 s (by omega)), fun w => ⟨by omega, 2 - (i + 1), by omega, i + 1, by omega, rfl, rfl, fr.u2 f (by decide) (by decide), fun s hs => ?_⟩⟩
  rw [up2_s, Int.toNat_natCast]
  by_cases e : s = i
  · rw [e, up1_s]
  · rw [up1_n _ _ e]; exact q3 s (by omega)
theorem s_X10_fan {σ : GS} {n : Nat} {Post : Int → GS → Prop} (hT : iT σ) (hR : (∀ j, 0 ≤ σ 55 j ∧ σ 55 j ≤ 3) ∧ ∀ j, 0 ≤ σ 56 j ∧ σ 56 j ≤ 25) (hn : σ 1 1 = n)
    (b : ¬ ff (σ 57) n = -9 → ∀ σ', fr [55, 56] [6] σ σ' → ((∀ j, 0 ≤ σ' 55 j ∧ σ' 55 j ≤ 3) ∧ ∀ j, 0 ≤ σ' 56 j ∧ σ' 56 j ≤ 25) → Post (-3) σ')
    (c : ff (σ 57) n = -9 → ∀ σ1 σ', 1 ≤ n → n ≤ 61 → rJ σ n σ1 → fr [52, 53, 54, 55, 56, 63] [0, 6, 11] σ σ' → σ' 51 0 = σ1 51 6 → σ' 51 11 = 0 → σ' 55 = σ1 55 → σ' 56 = σ1 56 → (∀ i : Nat, σ' 52 i = if i < 6 then σ1 55 i else σ 52 i) → (∀ i : Nat, σ' 53 i = if i < 48 then σ1 56 i else σ 53 i) → (∀ i : Nat, σ' 54 i = if i < 5 then 0 else σ 54 i) → (∀ s : Nat, s < 2 → σ' 63 s = 0) → Post (σ1 51 6) σ') : vc_X10_fan σ Post := by
  unfold vc_X10_fan
  refine s_X10_readText hT hR hn (fun σ1 f1 r1 j1 => ?_)
  have hg := ff_rg (σ 57) (n := n) (by have := hT.1; omega)
  refine ⟨by omega, fun e => ?_, fun e => b e σ1 f1 r1⟩
  obtain ⟨n1, n2, j2⟩ := j1 e
  have F : fr [52, 53, 54, 55, 56, 63] [0, 6, 11] σ (up2 σ1 51 0 (σ1 51 6)) := fr.u5 (f1.mono (by simp +contextual) (by simp)) (by decide)
  refine ⟨fun m v σ4 => ∃ i : Nat, i ≤ 6 ∧ m = 6 - i ∧ v = i ∧ fr [52, 53, 54, 55, 56, 63] [0, 6, 11] σ σ4 ∧ σ4 51 0 = σ1 51 6 ∧ (σ4 53 = σ 53 ∧ σ4 54 = σ 54 ∧ σ4 55 = σ1 55 ∧ σ4 56 = σ1 56) ∧ ∀ j : Nat, σ4 52 j = if j < i then σ1 55 j else σ 52 j, ⟨6, 0, by omega, by omega, rfl, F, by rw [up2_s, up1_s], ⟨by rw [up2_n _ _ _ (by decide)]; exact f1.1 53 (by decide) (by decide), by rw [up2_n _ _ _ (by decide)]; exact f1.1 54 (by decide) (by decide), by rw [up2_n _ _ _ (by decide)], by rw [up2_n _ _ _ (by decide)]⟩, fun j => by rw [up2_n _ _ _ (by decide), f1.1 52 (by decide) (by decide), if_neg (by omega)]⟩, ?_⟩
  rintro m v σ4 ⟨i, q1, q2, rfl, F4, q3, ⟨q53, q54, q55, q56⟩, q4⟩
  refine ⟨by omega, fun w => ?_, fun w => ⟨by omega, 6 - (i + 1), by omega, i + 1, by omega, rfl, rfl, fr.u2 F4 (by decide) (by decide), q3, ⟨q53, q54, q55, q56⟩, fun j => ?_⟩⟩
  · have e6 : i = 6 := by omega
    subst e6
    refine ⟨fun m v σ5 => ∃ i : Nat, i ≤ 48 ∧ m = 48 - i ∧ v = i ∧ fr [52, 53, 54, 55, 56, 63] [0, 6, 11] σ σ5 ∧ σ5 51 0 = σ1 51 6 ∧ (σ5 52 = σ4 52 ∧ σ5 54 = σ 54 ∧ σ5 55 = σ1 55 ∧ σ5 56 = σ1 56) ∧ ∀ j : Nat, σ5 53 j = if j < i then σ1 56 j else σ 53 j, ⟨48, 0, by omega, by omega, rfl, F4, q3, ⟨rfl, q54, q55, q56⟩, fun j => by rw [q53, if_neg (by omega)]⟩, ?_⟩
    rintro m v σ5 ⟨i, p1, p2, rfl, F5, p3, ⟨p52, p54, p55, p56⟩, p4⟩
    refine ⟨by omega, fun w => ?_, fun w => ⟨by omega, 48 - (i + 1), by omega, i + 1, by omega, rfl, rfl, fr.u2 F5 (by decide) (by decide), p3, ⟨p52, p54, p55, p56⟩, fun j => ?_⟩⟩
    · have e48 : i = 48 := by omega
      subst e48
      refine ⟨fun m v σ6 => ∃ i : Nat, i ≤ 5 ∧ m = 5 - i ∧ v = i ∧ fr [52, 53, 54, 55, 56, 63] [0, 6, 11] σ σ6 ∧ σ6 51 0 = σ1 51 6 ∧ (σ6 52 = σ4 52 ∧ σ6 53 = σ5 53 ∧ σ6 55 = σ1 55 ∧ σ6 56 = σ1 56) ∧ ∀ j : Nat, σ6 54 j = if j < i then 0 else σ 54 j, ⟨5, 0, by omega, by omega, rfl, F5, p3, ⟨p52, rfl, p55, p56⟩, fun j => by rw [p54, if_neg (by omega)]⟩, ?_⟩
      rintro m v σ6 ⟨i, u1, u2, rfl, F6, u3, ⟨u52, u53, u55, u56⟩, u4⟩
      refine ⟨by omega, fun w => ?_, fun w => ⟨by omega, 5 - (i + 1), by omega, i + 1, by omega, rfl, rfl, fr.u2 F6 (by decide) (by decide), u3, ⟨u52, u53, u55, u56⟩, fun j => ?_⟩⟩
      · have e5 : i = 5 := by omega
        subst e5
        have y0 : up2 (up2 (up2 σ6 51 11 0) 63 (0 : Int).toNat 0) 63 (1 : Int).toNat 0 51 0 = σ1 51 6 := by rw [← u3]; rfl
        rw [y0]
        refine c e σ1 _ n1 n2 j2 (fr.u2 (fr.u2 (fr.u5 F6 (by decide)) (by decide) (by decide)) (by decide) (by decide)) y0 rfl u55 u56 (fun i => ?_) (fun i => ?_) u4 (fun s hs => ?_)
        · rw [show up2 (up2 (up2 σ6 51 11 0) 63 (0 : Int).toNat 0) 63 (1 : Int).toNat 0 52 = σ6 52 from rfl, u52]; exact q4 i
        · rw [show up2 (up2 (up2 σ6 51 11 0) 63 (0 : Int).toNat 0) 63 (1 : Int).toNat 0 53 = σ6 53 from rfl, u53]; exact p4 i
        · rcases (show s = 0 ∨ s = 1 by omega) with rfl | rfl <;> rfl
      · rw [up2_s, Int.toNat_natCast]
        by_cases e : j = i
        · rw [e, up1_s, if_pos (by omega)]
        · rw [up1_n _ _ e, u4]
          by_cases d : j < i
          · rw [if_pos d, if_pos (by omega)]
          · rw [if_neg d, if_neg (by omega)]
    · rw [up2_s, Int.toNat_natCast, p56]
      by_cases e : j = i
      · rw [e, up1_s, if_pos (by omega)]
      · rw [up1_n _ _ e, p4]
        by_cases d : j < i
        · rw [if_pos d, if_pos (by omega)]
        · rw [if_neg d, if_neg (by omega)]
  · rw [up2_s, Int.toNat_natCast, q55]
    by_cases e : j = i
    · rw [e, up1_s, if_pos (by omega)]
    · rw [up1_n _ _ e, q4]
      by_cases d : j < i
      · rw [if_pos d, if_pos (by omega)]
      · rw [if_neg d, if_neg (by omega)]
