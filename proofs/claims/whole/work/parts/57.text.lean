/-! ===== the text: fault ===== -/
abbrev ok (c : Int) (i : Nat) : Prop := (i = 0 → c = 70) ∧ (i ≠ 0 → i ≤ 60 ∧ ((i - 1) % 10 = 0 → c = 66) ∧ ((i - 1) % 10 = 1 → 48 ≤ c ∧ c ≤ 51) ∧ (2 ≤ (i - 1) % 10 → 97 ≤ c ∧ c ≤ 122))
theorem s_X3_canStand {σ : GS} {c : Int} {i : Nat} {Post : Int → Prop} (hc : rg c) (hi : i < 64) (hp : Post (bi (ok c i))) : vc_X3_canStand σ c i Post := by
  unfold vc_X3_canStand
  refine ⟨by omega, fun h => ⟨fun h2 => ⟨by omega, by omega, fun h3 => ⟨hc, fun h4 => pf (by omega) hp, fun h4 => pt (by omega) hp⟩, fun h3 => ⟨hc, fun h4 => pf (by omega) hp, fun h4 => ⟨fun h5 => pf (by omega) hp, fun h5 => pt (by omega) hp⟩⟩, fun h3 h4 => s_X9_isLetter hc ⟨bi_01, ?_⟩⟩, fun h2 => pf (by omega) hp⟩, fun h => ⟨hc, fun h2 => pf (by omega) hp, fun h2 => pt (by omega) hp⟩⟩
  rw [bi_congr (q := ok c i) (by omega)]
  exact hp
def ff (t : Nat → Int) (n : Nat) : Int := if 0 ≤ fnd (fun i => ¬ ok (t i) i) n then fnd (fun i => ¬ ok (t i) i) n else if n % 10 = 1 then -9 else n
theorem ff_none {t : Nat → Int} {n : Nat} (h : ∀ j, j < n → ok (t j) j) : ff t n = if n % 10 = 1 then (-9 : Int) else (n : Int) := by
  unfold ff
  rw [fnd_none (fun k hk => fun c => c (h k hk)), if_neg (by decide)]
theorem ff_at {t : Nat → Int} {n i : Nat} (hi : i < n) (h : ∀ j, j < i → ok (t j) j) (q : ¬ ok (t i) i) : ff t n = i := by
  unfold ff
  have w : fnd (fun i => ¬ ok (t i) i) (i + 1 + (n - (i + 1))) = i := fnd_at q (fun j hj => fun c => c (h j hj)) _
  rw [show i + 1 + (n - (i + 1)) = n by omega] at w
  rw [w, if_pos (by omega)]
theorem ff_rg (t : Nat → Int) {n : Nat} (hn : n ≤ 64) : -9 ≤ ff t n ∧ ff t n ≤ 64 := by
  have := fnd_rg (fun i => ¬ ok (t i) i) n
  unfold ff
  split
  · omega
  · split <;> omega
theorem s_X3_firstFault {σ : GS} {n : Nat} {Post : Int → Prop} (hT : iT σ) (hn : σ 1 1 = n) (hp : Post (ff (σ 2) n)) : vc_X3_firstFault σ Post := by
  unfold vc_X3_firstFault
  have h1 := hT.1
  rw [hn]
  refine ⟨fun m v => ∃ i : Nat, i ≤ n ∧ m = n - i ∧ v = i ∧ ∀ j, j < i → ok (σ 2 j) j, ⟨n, 0, by omega, by omega, rfl, fun j hj => absurd hj (Nat.not_lt_zero j)⟩, ?_⟩
  rintro m v ⟨i, q1, q2, rfl, q3⟩
  refine ⟨by omega, by omega, fun h => ?_, fun h => ⟨by omega, ?_⟩⟩
  · have e : i = n := by omega
    subst e
    rw [ff_none q3] at hp
    refine ⟨by omega, by omega, fun c => ?_, fun c => ?_⟩
    · rw [if_neg (by omega)] at hp; exact hp
    · rw [if_pos (by omega)] at hp; exact hp
  · have hc := hT.2.2.1 i
    have o1 : n - (i + 1) < m := by omega
    have o2 : i + 1 ≤ n := by omega
    have o3 : i < n := by omega
    rw [Int.toNat_natCast]
    refine s_X3_canStand (by omega) (by omega) (bi_ne (fun q => ⟨n - (i + 1), o1, i + 1, o2, rfl, rfl, fun j hj => ?_⟩) (fun q => ?_))
    · by_cases e : j = i
      · rw [e]; exact q
      · exact q3 j (Nat.lt_of_le_of_ne (Nat.le_of_lt_succ hj) e)
    · rw [ff_at o3 q3 q] at hp
      exact hp
def rJ (σ : GS) (i : Nat) (σ5 : GS) : Prop := (∀ j, j < i → ok (σ 57 j) j) ∧ fr [55, 56] [6] σ σ5 ∧ σ5 51 6 = ((i - 1) / 10 : Nat) ∧ ((∀ j, 0 ≤ σ5 55 j ∧ σ5 55 j ≤ 3) ∧ ∀ j, 0 ≤ σ5 56 j ∧ σ5 56 j ≤ 25) ∧ ∀ q : Nat, 1 ≤ q → q < i → ((q - 1) % 10 = 1 → σ5 55 ((q - 1) / 10) = σ 57 q - 48) ∧ (2 ≤ (q - 1) % 10 → σ5 56 (8 * ((q - 1) / 10) + (q - 1) % 10 - 2) = σ 57 q - 97)
def RJ (σ : GS) (n : Nat) (m : Nat) (v : Int) (σ5 : GS) : Prop := ∃ i : Nat, 1 ≤ i ∧ i ≤ n ∧ m = n - i ∧ v = i ∧ rJ σ i σ5
theorem rJ_0 {σ σ5 : GS} {i : Nat} {v : Int} (h : rJ σ i σ5) (hi : 1 ≤ i) (o : ok (σ 57 i) i) (k : (i - 1) % 10 = 0) (hv : v = ((i + 1 - 1) / 10 : Nat)) : rJ σ (i + 1) (up2 σ5 51 6 v) := by
  obtain ⟨h1, h2, h3, h4, h5⟩ := h
  refine ⟨fun j hj => ?_, fr.u5 h2 (by decide), by rw [up2_s, up1_s, hv], ?_, fun q q1 q2 => ?_⟩
  · by_cases e : j = i
    · rw [e]; exact o
    · exact h1 j (by omega)
  · rw [up2_n _ _ _ (by decide), up2_n _ _ _ (by decide)]; exact h4
  · rw [up2_n _ _ _ (by decide), up2_n _ _ _ (by decide)]
    by_cases e : q = i
    · subst e; exact ⟨fun w => by omega, fun w => by omega⟩
    · exact h5 q q1 (by omega)
theorem rJ_1 {σ σ5 : GS} {i : Nat} {v : Int} (h : rJ σ i σ5) (hi : 1 ≤ i) (o : ok (σ 57 i) i) (k : (i - 1) % 10 = 1) (hv : v = ((i + 1 - 1) / 10 : Nat)) : rJ σ (i + 1) (up2 (up2 σ5 55 ((i - 1) / 10) (σ 57 i - 48)) 51 6 v) := by
  obtain ⟨h1, h2, h3, h4, h5⟩ := h
  have o2 := (o.2 (by omega)).2.2.1 k
  have y55 : up2 (up2 σ5 55 ((i - 1) / 10) (σ 57 i - 48)) 51 6 v 55 = up1 (σ5 55) ((i - 1) / 10) (σ 57 i - 48) := by rw [up2_n _ _ _ (by decide), up2_s]
  have y56 : up2 (up2 σ5 55 ((i - 1) / 10) (σ 57 i - 48)) 51 6 v 56 = σ5 56 := by rw [up2_n _ _ _ (by decide), up2_n _ _ _ (by decide)]
  refine ⟨fun j hj => ?_, fr.u5 (fr.u2 h2 (by decide) (by decide)) (by decide), by rw [up2_s, up1_s, hv], ?_, fun q q1 q2 => ?_⟩
  · by_cases e : j = i
    · rw [e]; exact o
    · exact h1 j (by omega)
  · rw [y55, y56]
    exact ⟨up1_all (P := fun z => 0 ≤ z ∧ z ≤ 3) h4.1 (by omega), h4.2⟩
  · rw [y55, y56]
    by_cases e : q = i
    · subst e; exact ⟨fun w => by rw [up1_s], fun w => by omega⟩
    · have := h5 q q1 (by omega)
      refine ⟨fun w => ?_, this.2⟩
      rw [up1_n _ _ (by omega)]
      exact this.1 w
theorem rJ_2 {σ σ5 : GS} {i : Nat} {v : Int} (h : rJ σ i σ5) (hi : 1 ≤ i) (o : ok (σ 57 i) i) (k : 2 ≤ (i - 1) % 10) (hv : v = ((i + 1 - 1) / 10 : Nat)) : rJ σ (i + 1) (up2 (up2 σ5 56 (8 * ((i - 1) / 10) + (i - 1) % 10 - 2) (σ 57 i - 97)) 51 6 v) := by
  obtain ⟨h1, h2, h3, h4, h5⟩ := h
  have o2 := (o.2 (by omega)).2.2.2 k
  have y56 : up2 (up2 σ5 56 (8 * ((i - 1) / 10) + (i - 1) % 10 - 2) (σ 57 i - 97)) 51 6 v 56 = up1 (σ5 56) (8 * ((i - 1) / 10) + (i - 1) % 10 - 2) (σ 57 i - 97) := by rw [up2_n _ _ _ (by decide), up2_s]
  have y55 : up2 (up2 σ5 56 (8 * ((i - 1) / 10) + (i - 1) % 10 - 2) (σ 57 i - 97)) 51 6 v 55 = σ5 55 := by rw [up2_n _ _ _ (by decide), up2_n _ _ _ (by decide)]
  refine ⟨fun j hj => ?_, fr.u5 (fr.u2 h2 (by decide) (by decide)) (by decide), by rw [up2_s, up1_s, hv], ?_, fun q q1 q2 => ?_⟩
  · by_cases e : j = i
    · rw [e]; exact o
    · exact h1 j (by omega)
  · rw [y55, y56]
    exact ⟨h4.1, up1_all (P := fun z => 0 ≤ z ∧ z ≤ 25) h4.2 (by omega)⟩
  · rw [y55, y56]
    by_cases e : q = i
    · subst e; exact ⟨fun w => by omega, fun w => by rw [up1_s]⟩
    · have := h5 q q1 (by omega)
      refine ⟨this.1, fun w => ?_⟩
      rw [up1_n _ _ (by omega)]
      exact this.2 w
theorem rb_blk {σ σ5 : GS} {n m i : Nat} (h : rJ σ i σ5) (hi : 1 ≤ i) (hin : i < n) (hm : m = n - i) (o : ok (σ 57 i) i) : ((¬ (((i : Int) - 1) % 10) = 1 → (((((i : Int) - 1) % 10) ≤ 1 → ((¬ (((i : Int) - 1) % 10) = 9 → (∃ n' : Nat, n' < m ∧ RJ σ n n' ((i : Int) + 1) (up2 σ5 51 6 ((σ5 51 6) + 0)))) ∧ ((((i : Int) - 1) % 10) = 9 → (∃ n' : Nat, n' < m ∧ RJ σ n n' ((i : Int) + 1) (up2 σ5 51 6 ((σ5 51 6) + 1)))))) ∧ (¬ (((i : Int) - 1) % 10) ≤ 1 → ((0 ≤ (((8 * (σ5 51 6)) + (((i : Int) - 1) % 10)) - 2) ∧ (((8 * (σ5 51 6)) + (((i : Int) - 1) % 10)) - 2) < 48) ∧ ((¬ (((i : Int) - 1) % 10) = 9 → (∃ n' : Nat, n' < m ∧ RJ σ n n' ((i : Int) + 1) (up2 (up2 σ5 56 (((8 * (σ5 51 6)) + (((i : Int) - 1) % 10)) - 2).toNat ((σ5 57 (i : Int).toNat) - 97)) 51 6 (((up2 σ5 56 (((8 * (σ5 51 6)) + (((i : Int) - 1) % 10)) - 2).toNat ((σ5 57 (i : Int).toNat) - 97)) 51 6) + 0)))) ∧ ((((i : Int) - 1) % 10) = 9 → (∃ n' : Nat, n' < m ∧ RJ σ n n' ((i : Int) + 1) (up2 (up2 σ5 56 (((8 * (σ5 51 6)) + (((i : Int) - 1) % 10)) - 2).toNat ((σ5 57 (i : Int).toNat) - 97)) 51 6 (((up2 σ5 56 (((8 * (σ5 51 6)) + (((i : Int) - 1) % 10)) - 2).toNat ((σ5 57 (i : Int).toNat) - 97)) 51 6) + 1))))))))) ∧ ((((i : Int) - 1) % 10) = 1 → ((0 ≤ (σ5 51 6) ∧ (σ5 51 6) < 6) ∧ ((¬ (((i : Int) - 1) % 10) = 9 → (∃ n' : Nat, n' < m ∧ RJ σ n n' ((i : Int) + 1) (up2 (up2 σ5 55 (σ5 51 6).toNat ((σ5 57 (i : Int).toNat) - 48)) 51 6 (((up2 σ5 55 (σ5 51 6).toNat ((σ5 57 (i : Int).toNat) - 48)) 51 6) + 0)))) ∧ ((((i : Int) - 1) % 10) = 9 → (∃ n' : Nat, n' < m ∧ RJ σ n n' ((i : Int) + 1) (up2 (up2 σ5 55 (σ5 51 6).toNat ((σ5 57 (i : Int).toNat) - 48)) 51 6 (((up2 σ5 55 (σ5 51 6).toNat ((σ5 57 (i : Int).toNat) - 48)) 51 6) + 1)))))))) := by
  have e57 : σ5 57 = σ 57 := h.2.1.1 57 (by decide) (by decide)
  have e6 := h.2.2.1
  have ek : ((i : Int) - 1) % 10 = (((i - 1) % 10 : Nat) : Int) := by omega
  have x5 : ∀ (j : Nat) (w : Int), up2 σ5 55 j w 51 6 = σ5 51 6 := fun _ _ => rfl
  have x6 : ∀ (j : Nat) (w : Int), up2 σ5 56 j w 51 6 = σ5 51 6 := fun _ _ => rfl
  have i60 := (o.2 (by omega)).1
  rw [x5, x6, e57, e6, ek, Int.toNat_natCast, Int.toNat_natCast]
  refine ⟨fun a => ⟨fun b => ⟨fun c => ⟨n - (i + 1), by omega, i + 1, by omega, by omega, rfl, rfl, rJ_0 h hi o (by omega) (by omega)⟩, fun c => absurd c (by omega)⟩, fun b => ⟨by omega, fun c => ?_, fun c => ?_⟩⟩, fun a => ⟨by omega, fun c => ⟨n - (i + 1), by omega, i + 1, by omega, by omega, rfl, rfl, rJ_1 h hi o (by omega) (by omega)⟩, fun c => absurd c (by omega)⟩⟩
  · rw [show (8 * (((i - 1) / 10 : Nat) : Int) + (((i - 1) % 10 : Nat) : Int) - 2).toNat = 8 * ((i - 1) / 10) + (i - 1) % 10 - 2 by omega]
    exact ⟨n - (i + 1), by omega, i + 1, by omega, by omega, rfl, rfl, rJ_2 h hi o (by omega) (by omega)⟩
  · rw [show (8 * (((i - 1) / 10 : Nat) : Int) + (((i - 1) % 10 : Nat) : Int) - 2).toNat = 8 * ((i - 1) / 10) + (i - 1) % 10 - 2 by omega]
    exact ⟨n - (i + 1), by omega, i + 1, by omega, by omega, rfl, rfl, rJ_2 h hi o (by omega) (by omega)⟩
theorem r60 {σ σ5 : GS} {i : Nat} (h : rJ σ i σ5) (hi : 1 ≤ i) (k : (i - 1) % 10 ≠ 0) : i ≤ 60 := by
  by_cases e : i = 1
  · omega
  · have := ((h.1 (i - 1) (by omega)).2 (by omega)).1
    omega
theorem s_X10_readText {σ : GS} {n : Nat} {Post : Int → GS → Prop} (hT : iT σ) (hR : (∀ j, 0 ≤ σ 55 j ∧ σ 55 j ≤ 3) ∧ ∀ j, 0 ≤ σ 56 j ∧ σ 56 j ≤ 25) (hn : σ 1 1 = n) (b : ∀ σ', fr [55, 56] [6] σ σ' → ((∀ j, 0 ≤ σ' 55 j ∧ σ' 55 j ≤ 3) ∧ ∀ j, 0 ≤ σ' 56 j ∧ σ' 56 j ≤ 25) → (ff (σ 57) n = -9 → 1 ≤ n ∧ n ≤ 61 ∧ rJ σ n σ') → Post (ff (σ 57) n) σ') : vc_X10_readText σ Post := by
  unfold vc_X10_readText
  have h1 := hT.1
  have e8 : up2 σ 51 6 0 51 8 = n := by rw [← hn, ← hT.2.1]; rfl
  have e0 : up2 σ 51 6 0 57 (0 : Int).toNat = σ 57 0 := rfl
  have f0 : fr [55, 56] [6] σ (up2 σ 51 6 0) := fr.u5 fr.rf (by decide)
  have hc : ∀ i : Nat, i < n → 0 ≤ σ 57 i ∧ σ 57 i ≤ 255 := fun i hi => by
    rw [hT.2.2.2 i (by omega)]; exact hT.2.2.1 i
  rw [e8, e0]
  refine ⟨by omega, fun c => ?_, fun c => ⟨by have := hc 0 (by omega); omega, fun d => ?_, fun d => ?_⟩⟩
  · have e : n = 0 := by omega
    subst e
    have w : ff (σ 57) 0 = 0 := rfl
    have := b _ f0 hR (fun q => by rw [w] at q; exact absurd q (by decide))
    rw [w] at this
    exact this
  · refine ⟨RJ σ n, ⟨n - 1, 1, by omega, by omega, rfl, rfl, ⟨fun j hj => ?_, f0, rfl, hR, fun q q1 q2 => by omega⟩⟩, ?_⟩
    · have e : j = 0 := by omega
      subst e
      exact ⟨fun _ => d, fun q => absurd rfl q⟩
    rintro m v σ5 ⟨i, q1, q2, q3, rfl, q4⟩
    have e58 : σ5 51 8 = n := by rw [q4.2.1.2 8 (by decide), hT.2.1, hn]
    have e57 : σ5 57 = σ 57 := q4.2.1.1 57 (by decide) (by decide)
    rw [e58]
    refine ⟨by omega, by omega, fun w => ?_, fun w => ?_⟩
    · have e : i = n := by omega
      subst e
      have hb := b σ5 q4.2.1 q4.2.2.2.1
      rw [ff_none q4.1] at hb
      refine ⟨by omega, by omega, fun z => ?_, fun z => ?_⟩
      · rw [if_neg (by omega)] at hb
        exact hb (fun y => by omega)
      · rw [if_pos (by omega)] at hb
        refine hb (fun _ => ⟨q1, ?_, q4⟩)
        have := q4.1 (i - 1) (by omega)
        by_cases e : i = 1
        · omega
        · have := (this.2 (by omega)).1
          omega
    · have hin : i < n := by omega
      have hci := hc i hin
      have bad : ¬ ok (σ 57 i) i → Post (i : Int) σ5 := by
        intro nb
        have hb := b σ5 q4.2.1 q4.2.2.2.1
        rw [ff_at hin q4.1 nb] at hb
        exact hb (fun y => by omega)
      have blk := fun o => rb_blk (n := n) (m := m) q4 q1 hin q3 o
      have r6 := q4.2.2.1
      have hrg : rg (σ5 57 (i : Int).toNat) := by rw [e57, Int.toNat_natCast]; omega
      have r5 : rg (σ5 51 6) := by rw [r6]; omega
      refine ⟨by omega, by omega, fun k0 => ⟨fun k1 => ⟨by omega, hrg, s_X10_in (rl hrg) (by decide) (by decide) (bi_ne (fun q => blk ?_) (fun q => bad ?_))⟩, fun k1 => ⟨by omega, hrg, s_X10_in (rl hrg) (by decide) (by decide) (bi_ne (fun q => blk ?_) (fun q => bad ?_))⟩⟩, fun k0 => ⟨by omega, hrg, fun k1 => ⟨fun z => absurd rfl z, fun _ => bad ?_⟩, fun k1 => ⟨r5, fun k2 => ⟨fun z => absurd rfl z, fun _ => bad ?_⟩, fun k2 => ⟨fun _ => blk ?_, fun z => absurd z (by decide)⟩⟩⟩⟩
      all_goals first | (rw [e57, Int.toNat_natCast] at q) | (rw [e57, Int.toNat_natCast] at k1) | skip
      · have h60 := r60 q4 q1 (by omega)
        exact ⟨fun z => by omega, fun _ => ⟨h60, fun z => by omega, fun z => by omega, fun z => q⟩⟩
      · exact fun y => q ((y.2 (by omega)).2.2.2 (by omega))
      · have h60 := r60 q4 q1 (by omega)
        exact ⟨fun z => by omega, fun _ => ⟨h60, fun z => by omega, fun z => q, fun z => by omega⟩⟩
      · exact fun y => q ((y.2 (by omega)).2.2.1 (by omega))
      · exact fun y => k1 ((y.2 (by omega)).2.1 (by omega))
      · rw [r6] at k2
        exact fun y => by have := (y.2 (by omega)).1; omega
      · rw [r6] at k2
        exact ⟨fun z => by omega, fun _ => ⟨by omega, fun z => k1, fun z => by omega, fun z => by omega⟩⟩
  · have hz : 0 < n := by omega
    have nb : ¬ ok (σ 57 0) 0 := fun q => d (q.1 rfl)
    have w := ff_at (t := σ 57) hz (fun j hj => absurd hj (Nat.not_lt_zero j)) nb
    have := b _ f0 hR (fun q => by rw [w] at q; exact absurd q (by decide))
    rw [w] at this
    exact this
