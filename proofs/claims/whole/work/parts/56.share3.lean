theorem onN_6 : ∀ {s : Nat}, s < 64 → onN s 6 ≤ 6 := by
  have h : ∀ s, s < 64 → onN s 6 ≤ 6 := by decide +kernel
  exact fun {s} hs => h s hs
theorem s_X10_share {σ : GS} {a0 a1 : Int} {Post : Int → Prop} (hI : Inv σ) (h0 : rg a0) (h1 : rg a1) (b : ¬ (0 ≤ a0 ∧ a0 < σ 3 2) → Post (-1)) (hp : ∀ a N : Nat, a0 = a → σ 3 2 = N → a < N → N ≤ 6 → Post (frac (TM σ N a (2 ^ N)).toNat (fct N) a1)) : vc_X10_share σ a0 a1 Post := by
  unfold vc_X10_share
  have hn := hI.F.1.1
  have hN := hI.F.2.2.1
  refine s_X10_isBlade hI.F.2.1 h0 (bi_ne (fun p0 => ?_) (fun p0 => b (by rw [hN] at p0; exact p0)))
  rw [hN] at p0 ⊢
  obtain ⟨a, rfl⟩ := Int.eq_ofNat_of_zero_le p0.1
  obtain ⟨N, eN⟩ := Int.eq_ofNat_of_zero_le hn.1
  have hN6 : N ≤ 6 := by omega
  have haN : a < N := by omega
  have h64 := p2_6 hN6
  have hf := fct_6 hN6
  have hP := hp a N rfl eN haN hN6
  rw [eN, Int.toNat_natCast, Int.toNat_natCast, i2, i2]
  refine ⟨fun n v3 v4 => ∃ m : Nat, m ≤ 2 ^ N ∧ n = 2 ^ N - m ∧ v4 = m ∧ v3 = TM σ N a m, ⟨2 ^ N, 0, by omega, by omega, rfl, ?_⟩, ?_⟩
  · exact (sm_zero 28 (fun k _ => by split <;> rfl)).symm
  rintro n v3 v4 ⟨m, q1, q2, rfl, rfl⟩
  refine ⟨⟨⟨by omega, by omega⟩, by omega, by omega⟩, by omega, by omega, fun w => ?_, fun w => ?_⟩
  · have e : m = 2 ^ N := by omega
    subst e
    have hT := TM_rg (σ := σ) hN6 haN
    obtain ⟨A, hA⟩ := Int.eq_ofNat_of_zero_le hT.1
    rw [hA] at hT ⊢
    rw [hA, Int.toNat_natCast] at hP
    unfold frac at hP
    have g1 : 0 < Nat.gcd A (fct N) := Nat.gcd_pos_of_pos_right _ (by omega)
    have g3 : Nat.gcd A (fct N) ≤ fct N := Nat.gcd_le_right _ (by omega)
    refine s_X10_factorial (by omega) ?_
    rw [Int.toNat_natCast]
    refine s_X10_common (by omega) (by omega) ⟨h1, fun c => s_X10_factorial (by omega) ?_, fun c => ⟨⟨by omega, by omega⟩, ?_⟩⟩
    · rw [Int.toNat_natCast]
      rw [if_pos c] at hP
      refine ⟨⟨by omega, by omega⟩, ?_⟩
      rw [← Int.natCast_ediv]
      exact hP
    · rw [if_neg c] at hP
      rw [← Int.natCast_ediv]
      exact hP
  · have hm64 : m < 64 := by omega
    have o1 : 2 ^ N - (m + 1) < n := by omega
    have o2 : m + 1 ≤ 2 ^ N := by omega
    have es := TM_s (σ := σ) (m := m) haN
    refine s_X10_has (by omega) (by omega) (bi_ne (fun c => ⟨2 ^ N - (m + 1), o1, m + 1, o2, rfl, rfl, ?_⟩) (fun c => ?_))
    · unfold hs at c
      rw [hsN] at c
      rw [es, sm_zero 28 (fun p _ => by rw [if_neg (fun q => q.2 ⟨a, haN, by omega, q.1⟩)])]
      omega
    · unfold hs at c
      rw [hsN] at c
      refine s_X10_ones hm64 (s_X10_factorial ?_ (s_X10_ones hm64 (s_X10_factorial ?_ ?_)))
      · have := onN_6 hm64; omega
      · have := onN_6 hm64; omega
      · have ha2 : 0 ≤ ((2 ^ a : Nat) : Int) ∧ ((2 ^ a : Nat) : Int) ≤ 64 := by
          have := p2_6 (n := a) (by omega)
          generalize (2 ^ a : Nat) = y at this ⊢
          omega
        refine ⟨⟨⟨by omega, Int.le_trans ha2.2 (by decide)⟩, by omega, by omega⟩, ⟨by omega, ha2.1⟩, ?_⟩
        have hor := or_lt m hm64 a (by omega)
        have eb : bor (m : Int) ((2 ^ a : Nat) : Int) = ((m ||| 2 ^ a : Nat) : Int) := by
          unfold bor
          rw [Int.toNat_natCast, Int.toNat_natCast]
        rw [eb]
        refine s_X10_placesSeen (L := 0) hI.F.2.1 hI.G.2.1 (by decide) (by omega) (s_X10_placesSeen (L := 0) hI.F.2.1 hI.G.2.1 (by decide) (by omega) ⟨2 ^ N - (m + 1), o1, m + 1, o2, rfl, rfl, ?_⟩)
        have hq : ∀ (s : Nat) (p : Int), 0 ≤ sM σ 0 s 0 p ↔ ∃ b, b < N ∧ s / 2 ^ b % 2 = 1 ∧ cv σ p b := by
          intro s p
          unfold sM
          rw [seen_iff, hN, eN, Int.toNat_natCast]
          refine ⟨fun ⟨b, h1, h2, h3⟩ => ⟨b, h1, ?_, (cv_M hI p (by omega)).mp h3⟩, fun ⟨b, h1, h2, h3⟩ => ⟨b, h1, ?_, (cv_M hI p (by omega)).mpr h3⟩⟩
          · unfold hs at h2
            rw [hsN] at h2
            omega
          · unfold hs
            rw [hsN]
            omega
        have hdf := cnt_diff (P := fun p : Nat => 0 ≤ sM σ 0 (m ||| 2 ^ a : Nat) 0 p) (Q := fun p : Nat => 0 ≤ sM σ 0 m 0 p) (A := fun p : Nat => cv σ p a) 28 (fun p _ => by
          rw [hq, hq]
          constructor
          · rintro ⟨b, h1, h2, h3⟩
            rcases (or_bit m hm64 a (by omega) b (by omega)).mp h2 with h4 | h4
            · exact Or.inl ⟨b, h1, h4, h3⟩
            · rw [h4] at h3; exact Or.inr h3
          · rintro (⟨b, h1, h2, h3⟩ | h3)
            · exact ⟨b, h1, (or_bit m hm64 a (by omega) b (by omega)).mpr (Or.inl h2), h3⟩
            · exact ⟨a, haN, (or_bit m hm64 a (by omega) a (by omega)).mpr (Or.inr rfl), h3⟩)
        rw [hdf, es, Int.toNat_natCast]
        have ez : ((N : Int) - 1 - (onN m 6 : Int)).toNat = N - 1 - onN m 6 := by omega
        rw [ez]
        unfold wN
        rw [Int.natCast_mul]
        congr 2
        refine sm_congr (fun p _ => ?_)
        by_cases d : cv σ p a ∧ ¬ 0 ≤ sM σ 0 m 0 p
        · rw [if_pos d, if_pos ⟨d.1, fun q => d.2 ((hq m p).mpr q)⟩]
        · rw [if_neg d, if_neg (fun q => d ⟨q.1, fun w => q.2 ((hq m p).mp w)⟩)]
theorem share_fr {σ : GS} (hI : Inv σ) {N a : Nat} (eN : σ 3 2 = N) (hN : N ≤ 6) (haN : a < N) (a1 : Int) : frac (SX σ N a 4).toNat 60 a1 = frac (TM σ N a (2 ^ N)).toNat (fct N) a1 ∧ rg (frac (SX σ N a 4).toNat 60 a1) := by
  have h := share_eq hI eN hN haN
  have h1 := SX_rg σ N a 4
  have h2 := TM_rg (σ := σ) hN haN
  have h3 := fct_6 hN
  obtain ⟨A, hA⟩ := Int.eq_ofNat_of_zero_le h1.1
  obtain ⟨T, hT⟩ := Int.eq_ofNat_of_zero_le h2.1
  rw [hA, hT] at h
  rw [hA] at h1 ⊢
  rw [hT, Int.toNat_natCast, Int.toNat_natCast]
  have e : A * fct N = T * 60 := by
    have h : ((A * fct N : Nat) : Int) = ((T * 60 : Nat) : Int) := by
      rw [Int.natCast_mul, h, Int.natCast_mul, Int.mul_comm]
      rfl
    exact Int.ofNat.inj h
  have := frac_rg (S := A) (T := 60) (by omega) (by omega) a1
  exact ⟨frac_eq (by decide) (by omega) e a1, by omega⟩
theorem q_share {σ : GS} {a0 a1 : Int} {K : Int → Int → GS → Prop} (hI : Inv σ) (h0 : rg a0) (h1 : rg a1) (hK : ∀ z σ', rg z → Inv σ' → K z z σ') : vc_X9_share σ a0 a1 (fun z => vc_X10_share σ a0 a1 (fun z' => K z z' σ)) := by
  refine s_X9_share hI h0 h1 (fun c => s_X10_share hI h0 h1 (fun _ => hK _ _ (by decide) hI) (fun a N e1 e2 e3 _ => absurd (show 0 ≤ a0 ∧ a0 < σ 3 2 by omega) c)) (fun a N e1 e2 e3 e4 => s_X10_share hI h0 h1 (fun c => absurd (show 0 ≤ a0 ∧ a0 < σ 3 2 by omega) c) (fun a' N' e1' e2' e3' e4' => ?_))
  have : a' = a := by omega
  subst this
  have : N' = N := by omega
  subst this
  have hs := share_fr hI e2 e4 e3 a1
  rw [← hs.1]
  exact hK _ _ hs.2 hI
