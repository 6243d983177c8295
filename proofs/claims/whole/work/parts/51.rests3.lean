theorem bx2 {k : Nat} (h : k < 4) : (0 ≤ bxor k 2 ∧ bxor k 2 < 4) ∧ (bxor k 2).toNat < 4 ∧ (((bxor k 2).toNat / 2 : Nat) : Int) = 1 - ((k / 2 : Nat) : Int) ∧ (bxor k 2).toNat % 2 = k % 2 := by
  rcases (show k = 0 ∨ k = 1 ∨ k = 2 ∨ k = 3 by omega) with rfl | rfl | rfl | rfl <;> decide
theorem bx1 {k : Nat} (h : k < 4) : (0 ≤ bxor k 1 ∧ bxor k 1 < 4) ∧ (bxor k 1).toNat < 4 ∧ (((bxor k 1).toNat % 2 : Nat) : Int) = 1 - ((k % 2 : Nat) : Int) ∧ (bxor k 1).toNat / 2 = k / 2 := by
  rcases (show k = 0 ∨ k = 1 ∨ k = 2 ∨ k = 3 by omega) with rfl | rfl | rfl | rfl <;> decide
theorem s_X10_rests {σ : GS} {f : Nat → Int} {a0 a1 a2 : Int} {Post : Int → GS → Prop} (hI : Inv σ) (h54 : on5 (σ 54) f) (h0 : 0 ≤ a0 ∧ a0 < σ 3 2 - 1) (h1 : 0 ≤ a1 ∧ a1 < σ 3 2 - 1) (hne : a0 ≠ a1) (h2 : a2 = 0 ∨ a2 = 1) (hp : ∀ σ2, m5 σ σ2 → Post (if a2 = 0 then cnt (rs σ a0 a1 f) 4 else rv (rs σ a0 a1 f) 4) σ2) : vc_X10_rests σ a0 a1 a2 Post := by
  unfold vc_X10_rests
  have hn := hI.F.1.1
  have hN := hI.F.2.2.1
  refine s_X10_isGap hI.F.2.1 (by omega) (bi_eq (fun c => absurd c (by rw [hN]; omega)) (fun _ => s_X10_isGap hI.F.2.1 (by omega) (bi_ne (fun _ => ⟨by omega, by omega, fun c => absurd c hne, fun _ => ⟨by omega, s_X10_in (by omega) (by decide) (by decide) (bi_ne (fun _ => ?_) (fun c => absurd c (by omega)))⟩⟩) (fun c => absurd c (by rw [hN]; omega)))))
  refine ⟨fun m v4 v5 v6 σ1 => ∃ k : Nat, k ≤ 4 ∧ m = 4 - k ∧ v6 = k ∧ v4 = cnt (rs σ a0 a1 f) k ∧ v5 = rv (rs σ a0 a1 f) k ∧ m5 σ σ1, ⟨4, 0, by omega, by omega, rfl, rfl, rfl, fun _ _ => rfl, fun _ _ => rfl, hI.G.2.1⟩, ?_⟩
  rintro m v4 v5 v6 σ1 ⟨k, q1, q2, rfl, rfl, rfl, s1⟩
  have hc := cnt_rg (rs σ a0 a1 f) k
  have hv := rv_rg (rs σ a0 a1 f) (n := k) (by omega)
  have cf := cnt_fnd (rs σ a0 a1 f) k
  have es := rv_s (rs σ a0 a1 f) k
  have ec : cnt (rs σ a0 a1 f) (k + 1) = cnt (rs σ a0 a1 f) k + if rs σ a0 a1 f k then 1 else 0 := rfl
  generalize hC : cnt (rs σ a0 a1 f) k = C at hc cf ec
  refine ⟨by omega, fun w => ?_, fun w => ⟨by omega, ?_⟩⟩
  · have e : k = 4 := by omega
    subst e
    have := hp σ1 s1
    refine ⟨fun d => ?_, fun d => ?_⟩
    · rw [if_neg d] at this; exact this
    · rw [if_pos d, hC] at this; exact this
  · have pd : (k : Int) / 2 = ((k / 2 : Nat) : Int) := by omega
    have pm : (k : Int) % 2 = ((k % 2 : Nat) : Int) := by omega
    have I1 := hI.scM s1.sc
    have o1 : on5 (σ1 54) f := fun g hg => (s1.2.1 g hg).trans (h54 g hg)
    have r4 : rg C := by omega
    have o2 : 4 - (k + 1) < m := by omega
    have o3 : k + 1 ≤ 4 := by omega
    rw [pd, pm]
    refine s_X10_isRest I1 o1 (by omega) (by omega) (by omega) (fun σ2 s2 => ?_)
    rw [bi_congr (rs_c (s1.1 3 (by decide)) (s1.1 4 (by decide)) a0 a1 f k)]
    refine bi_eq (fun q => ⟨4 - (k + 1), o2, k + 1, o3, rfl, rfl, ?_, ?_, s1.tr s2⟩) (fun q => ⟨r4, fun d => ⟨4 - (k + 1), o2, k + 1, o3, rfl, rfl, ?_, ?_, s1.tr s2⟩, fun d => ⟨4 - (k + 1), o2, k + 1, o3, rfl, rfl, ?_, ?_, s1.tr s2⟩⟩)
    · rw [ec, if_neg q, Int.add_zero]
    · rw [es, if_neg (fun w => q w.1)]
    · rw [ec, if_pos q]
    · rw [es, if_neg (fun w => d (cf.mpr w.2))]
    · rw [ec, if_pos q]
    · rw [es, if_pos ⟨q, cf.mp d⟩]
theorem q_rests {σ : GS} {a0 a1 a2 : Int} {K : Int → Int → GS → Prop} (hI : Inv σ) (h0 : rg a0) (h1 : rg a1) (h2 : rg a2) (hK : ∀ z σ', rg z → Inv σ' → K z z σ') : vc_X9_rests σ a0 a1 a2 (fun z σ1 => vc_X10_rests σ1 a0 a1 a2 (fun z' σ2 => K z z' σ2)) := by
  have hn := hI.F.1.1
  have hN := hI.F.2.2.1
  unfold vc_X9_rests
  refine s_X1_hasGap hI.F.1 h0 (bi_eq (fun p => ?_) (fun p0 => s_X1_hasGap hI.F.1 h1 (bi_ne (fun p1 => ⟨h0, h1, fun c => ?_, fun hne => s_X9_isBit h2 (bi_ne (fun p2 => ?_) (fun p2 => ?_))⟩) (fun p1 => ?_))))
  · unfold vc_X10_rests
    exact s_X10_isGap hI.F.2.1 h0 (bi_eq (fun _ => hK _ _ (by decide) hI) (fun c => absurd c (by rw [hN]; exact p)))
  · unfold vc_X10_rests
    exact s_X10_isGap hI.F.2.1 h0 (bi_eq (fun c => absurd c (by rw [hN]; omega)) (fun _ => s_X10_isGap hI.F.2.1 h1 (bi_ne (fun _ => ⟨h0, h1, fun _ => hK _ _ (by decide) hI, fun d => absurd c d⟩) (fun c => absurd c (by rw [hN]; omega)))))
  · refine ⟨fun m v σ1 => ∃ k : Nat, k ≤ 4 ∧ m = 4 - k ∧ v = k ∧ scX σ σ1 ∧ ∀ j : Nat, j < k → σ1 48 j = gn σ a0 a1 (j / 2 : Nat) (j % 2 : Nat) (σ 7) ∧ σ1 49 j = gn σ a1 a0 (j % 2 : Nat) (j / 2 : Nat) (σ 7), ⟨4, 0, by omega, by omega, rfl, scX.rf σ, fun j hj => absurd hj (Nat.not_lt_zero j)⟩, ?_⟩
    rintro m v σ1 ⟨k, q1, q2, rfl, s1, q3⟩
    have I1 := hI.scX s1
    refine ⟨by omega, fun w => ?_, fun w => s_X9_weighPair I1 (by omega) (by omega) hne (by omega) (fun σ2 ⟨w1, w2, w3, w4⟩ => ⟨4 - (k + 1), by omega, k + 1, by omega, rfl, rfl, ?_, fun j hj => ?_⟩)⟩
    · have e : k = 4 := by omega
      subst e
      refine ⟨fun m v4 v5 v6 => ∃ k : Nat, k ≤ 4 ∧ m = 4 - k ∧ v6 = k ∧ v4 = cnt (rs σ a0 a1 (σ 7)) k ∧ v5 = rv (rs σ a0 a1 (σ 7)) k, ⟨4, 0, by omega, by omega, rfl, rfl, rfl⟩, ?_⟩
      rintro m v4 v5 v6 ⟨k, r1, r2, rfl, rfl, rfl⟩
      have hc := cnt_rg (rs σ a0 a1 (σ 7)) k
      have hv := rv_rg (rs σ a0 a1 (σ 7)) (n := k) (by omega)
      have cf := cnt_fnd (rs σ a0 a1 (σ 7)) k
      have es := rv_s (rs σ a0 a1 (σ 7)) k
      have ec : cnt (rs σ a0 a1 (σ 7)) (k + 1) = cnt (rs σ a0 a1 (σ 7)) k + if rs σ a0 a1 (σ 7) k then 1 else 0 := rfl
      refine ⟨by omega, fun w => ?_, fun w => ?_⟩
      · have e : k = 4 := by omega
        subst e
        have e54 : σ1 54 = σ 54 := s1.1 54 (by decide) (by decide) (by omega) (by omega)
        have e3 : σ1 3 = σ 3 := s1.1 3 (by decide) (by decide) (by omega) (by omega)
        have e4 : σ1 4 = σ 4 := s1.1 4 (by decide) (by decide) (by omega) (by omega)
        have B : ∀ z, z = (if a2 = 0 then cnt (rs σ a0 a1 (σ 7)) 4 else rv (rs σ a0 a1 (σ 7)) 4) → vc_X10_rests σ1 a0 a1 a2 (fun z' σ2 => K z z' σ2) := by
          intro z hz
          refine s_X10_rests (f := σ 7) I1 (by rw [e54]; exact hI.G.2.2.1) (by rw [e3]; exact p0) (by rw [e3]; exact p1) hne p2 (fun σ2 s2 => ?_)
          have ee : (if a2 = 0 then cnt (rs σ1 a0 a1 (σ 7)) 4 else rv (rs σ1 a0 a1 (σ 7)) 4) = z := by
            rw [hz]
            have e1 : cnt (rs σ1 a0 a1 (σ 7)) 4 = cnt (rs σ a0 a1 (σ 7)) 4 := cnt_congr (fun k _ => rs_c e3 e4 a0 a1 (σ 7) k)
            have e2 : fnd (rs σ1 a0 a1 (σ 7)) 4 = fnd (rs σ a0 a1 (σ 7)) 4 := fnd_congr (fun k _ => rs_c e3 e4 a0 a1 (σ 7) k)
            unfold rv
            rw [e1, e2]
          rw [ee]
          refine hK _ _ ?_ (I1.scM s2.sc)
          rw [hz]
          split
          · omega
          · omega
        exact ⟨h2, fun d => B _ (by rw [if_neg d]), fun d => B _ (by rw [if_pos d])⟩
      · have k4 : k < 4 := by omega
        obtain ⟨b1, b2, b3, b4⟩ := bx2 k4
        obtain ⟨c1, c2, c3, c4⟩ := bx1 k4
        have g1 := (q3 k k4).1
        have g2 := (q3 k k4).2
        have g3 := (q3 (bxor k 2).toNat b2).1
        have g4 := (q3 (bxor k 1).toNat c2).2
        rw [b3, b4] at g3
        rw [c3, c4] at g4
        have R1 : rg (σ1 48 k) := by rw [g1]; exact gn_rg _ _ _ _ _ _ (by omega)
        have R2 : rg (σ1 49 k) := by rw [g2]; exact gn_rg _ _ _ _ _ _ (by omega)
        have R3 : rg (σ1 48 (bxor k 2).toNat) := by rw [g3]; exact gn_rg _ _ _ _ _ _ (by omega)
        have R4 : rg (σ1 49 (bxor k 1).toNat) := by rw [g4]; exact gn_rg _ _ _ _ _ _ (by omega)
        have k0 : 0 ≤ (k : Int) ∧ (k : Int) < 4 := by omega
        have kx : 0 ≤ (k : Int) ∧ (k : Int) ≤ 2147483647 := by omega
        have o2 : 4 - (k + 1) < m := by omega
        have o3 : k + 1 ≤ 4 := by omega
        have rr : rg (rv (rs σ a0 a1 (σ 7)) k) := by omega
        have pd : (k : Int) / 2 ^ (1 : Int).toNat = ((k / 2 : Nat) : Int) := by show (k : Int) / 2 = _; omega
        have pm : (k : Int) % 2 = ((k % 2 : Nat) : Int) := by omega
        have eR : rs σ a0 a1 (σ 7) k ↔ ¬ σ1 48 k < σ1 48 (bxor k 2).toNat ∧ ¬ σ1 49 k < σ1 49 (bxor k 1).toNat := by
          unfold rs
          rw [g1, g2, g3, g4]
        have hvi := hv.2.2
        rw [Int.toNat_natCast]
        refine ⟨k0, ⟨k0.1, by decide⟩, b1, R1, R3, fun d => ⟨4 - (k + 1), o2, k + 1, o3, rfl, rfl, ?_, ?_⟩, fun d => ⟨⟨k0.1, by decide⟩, c1, R2, R4, fun e => ⟨4 - (k + 1), o2, k + 1, o3, rfl, rfl, ?_, ?_⟩, fun e => ⟨rr, fun u => ⟨4 - (k + 1), o2, k + 1, o3, rfl, rfl, ?_, ?_⟩, fun u => ⟨kx, 4 - (k + 1), o2, k + 1, o3, rfl, rfl, ?_, ?_⟩⟩⟩⟩
        · rw [ec, if_neg (fun q => (eR.mp q).1 d), Int.add_zero]
        · rw [es, if_neg (fun w => (eR.mp w.1).1 d)]
        · rw [ec, if_neg (fun q => (eR.mp q).2 e), Int.add_zero]
        · rw [es, if_neg (fun w => (eR.mp w.1).2 e)]
        · rw [ec, if_pos (eR.mpr ⟨d, e⟩)]
        · rw [es, if_neg (fun w => u (hvi.mpr w.2))]
        · rw [ec, if_pos (eR.mpr ⟨d, e⟩)]
        · rw [es, if_pos ⟨eR.mpr ⟨d, e⟩, hvi.mp u⟩, pd, pm]
    · exact s1.tr ⟨fun c c1 c2 c3 c4 => w1 c c1 c2 c3 (by omega) (by omega), w2⟩
    · have e3 : σ1 3 = σ 3 := s1.1 3 (by decide) (by decide) (by omega) (by omega)
      have e4 : σ1 4 = σ 4 := s1.1 4 (by decide) (by decide) (by omega) (by omega)
      have e7 : σ1 7 = σ 7 := s1.1 7 (by decide) (by decide) (by omega) (by omega)
      rw [w3, w4, e7, gn_c e3 e4, gn_c e3 e4]
      by_cases e : j = k
      · subst e
        rw [up1_s, up1_s]
        exact ⟨rfl, rfl⟩
      · rw [up1_n _ _ e, up1_n _ _ e]
        exact q3 j (by omega)
  · unfold vc_X10_rests
    exact s_X10_isGap hI.F.2.1 h0 (bi_eq (fun c => absurd c (by rw [hN]; omega)) (fun _ => s_X10_isGap hI.F.2.1 h1 (bi_ne (fun _ => ⟨h0, h1, fun c => absurd c hne, fun _ => ⟨h2, s_X10_in (rl h2) (by decide) (by decide) (bi_ne (fun c => absurd c (by omega)) (fun _ => hK _ _ (by decide) hI))⟩⟩) (fun c => absurd c (by rw [hN]; omega)))))
  · unfold vc_X10_rests
    exact s_X10_isGap hI.F.2.1 h0 (bi_eq (fun c => absurd c (by rw [hN]; omega)) (fun _ => s_X10_isGap hI.F.2.1 h1 (bi_ne (fun c => absurd c (by rw [hN]; exact p1)) (fun _ => hK _ _ (by decide) hI))))
