theorem m_up {σ : GS} {f : Nat → Int} {x b d : Int} (hI : Inv σ) (hx : 0 ≤ x ∧ x < 5) (hf : on5 (gm σ 1) f) (hd : d = if b = 1 ∧ jc1 σ x f then 1 else 0) : m5 σ (up2 σ 54 (5 + x).toNat (σ 54 (5 + x).toNat + d)) ∧ on5 (gm (up2 σ 54 (5 + x).toNat (σ 54 (5 + x).toNat + d)) 1) (tw σ x b f) := by
  obtain ⟨X, rfl⟩ := Int.eq_ofNat_of_zero_le hx.1
  have hg := hI.G.2.1
  have hX : σ 54 (5 + X) = f X := hf X (by omega)
  have hb := hg (5 + X)
  rw [show (5 + (X : Int)).toNat = 5 + X by omega]
  have hr : 0 ≤ σ 54 (5 + X) + d ∧ σ 54 (5 + X) + d ≤ 4 := by
    rw [hd]
    split
    · rename_i q
      have := q.2.2
      rw [Int.toNat_natCast] at this
      omega
    · omega
  refine ⟨⟨fun c hc => up2_n _ _ _ hc, fun g hg => ?_, fun i => ?_⟩, fun g hg => ?_⟩
  · rw [up2_s, up1_n _ _ (by omega)]
  · rw [up2_s]
    exact up1_all (P := fun z => 0 ≤ z ∧ z ≤ 4) hg hr i
  · have e := hf g hg
    unfold gm at e ⊢
    rw [up2_s]
    unfold tw
    by_cases e2 : g = X
    · subst e2
      rw [up1_s, hX, hd]
      by_cases hb1 : b = 1
      · rw [if_pos hb1]
        unfold jw1
        by_cases k : jc1 σ g f
        · rw [if_pos ⟨hb1, k⟩, if_pos ⟨rfl, k⟩]
        · rw [if_neg (fun q => k q.2), if_neg (fun q => k q.2)]; omega
      · rw [if_neg hb1, if_neg (fun q => hb1 q.1)]; omega
    · rw [up1_n _ _ (by omega), e]
      split
      · unfold jw1
        rw [if_neg (fun q => e2 (by have := q.1; omega))]
      · rfl
theorem m5.tr {a b c : GS} (h1 : m5 a b) (h2 : m5 b c) : m5 a c := ⟨fun k p => (h2.1 k p).trans (h1.1 k p), fun i hi => (h2.2.1 i hi).trans (h1.2.1 i hi), h2.2.2⟩
theorem m_leaf {σ : GS} {f : Nat → Int} {x y b c d e : Int} {Post : Int → GS → Prop} (hI : Inv σ) (hx : 0 ≤ x ∧ x < 5) (hy : 0 ≤ y ∧ y < 5) (hf : on5 (gm σ 1) f) (hd : d = if b = 1 ∧ jc1 σ x f then 1 else 0) (he : e = if c = 1 ∧ jc1 σ y (tw σ x b f) then 1 else 0) (hp : ∀ σ2, m5 σ σ2 → Post (gn σ x y b c f) σ2) :
    vc_X10_cellsSeen (up2 (up2 σ 54 (5 + x).toNat ((σ 54 (5 + x).toNat) + d)) 54 (5 + y).toNat (((up2 σ 54 (5 + x).toNat ((σ 54 (5 + x).toNat) + d)) 54 (5 + y).toNat) + e)) 1 x 0 (fun (z8 : Int) => vc_X10_cellsSeen (up2 (up2 σ 54 (5 + x).toNat ((σ 54 (5 + x).toNat) + d)) 54 (5 + y).toNat (((up2 σ 54 (5 + x).toNat ((σ 54 (5 + x).toNat) + d)) 54 (5 + y).toNat) + e)) 1 (y + 1) 0 (fun (z9 : Int) => Post (((2 * z8) - z9) - b) (up2 (up2 σ 54 (5 + x).toNat ((σ 54 (5 + x).toNat) + d)) 54 (5 + y).toNat (((up2 σ 54 (5 + x).toNat ((σ 54 (5 + x).toNat) + d)) 54 (5 + y).toNat) + e)))) := by
  obtain ⟨a1, a2⟩ := m_up hI hx hf hd
  generalize up2 σ 54 (5 + x).toNat ((σ 54 (5 + x).toNat) + d) = σ1 at a1 a2
  have I1 := hI.scM a1.sc
  have h3 := a1.1 3 (by decide)
  have h4 := a1.1 4 (by decide)
  have he1 : e = if c = 1 ∧ jc1 σ1 y (tw σ x b f) then 1 else 0 := by
    rw [he]
    unfold jc1 fre
    rw [h3, h4]
  obtain ⟨b1, b2⟩ := m_up I1 hy a2 he1
  generalize up2 σ1 54 (5 + y).toNat ((σ1 54 (5 + y).toNat) + e) = σ2 at b1 b2
  have I2 := I1.scM b1.sc
  rw [tw_c h3 h4] at b2
  have b2 : on5 (gm σ2 1) (tp σ x y b c f) := b2
  refine m_cells I2.F b1.2.2 b2 (by omega) (m_cells I2.F b1.2.2 b2 (by omega) ?_)
  rw [cF_c (σ' := σ2) (σ := σ) ((b1.1 3 (by decide)).trans h3) ((b1.1 4 (by decide)).trans h4), cF_c (σ' := σ2) (σ := σ) ((b1.1 3 (by decide)).trans h3) ((b1.1 4 (by decide)).trans h4)]
  exact hp σ2 (a1.tr b1)
theorem s_X10_gain {σ : GS} {f : Nat → Int} {x y b c : Int} {Post : Int → GS → Prop} (hI : Inv σ) (h54 : on5 (σ 54) f) (hx : 0 ≤ x ∧ x < 5) (hy : 0 ≤ y ∧ y < 5) (hb : rg b) (hc : rg c) (hp : ∀ σ2, m5 σ σ2 → Post (gn σ x y b c f) σ2) : vc_X10_gain σ x y b c Post := by
  unfold vc_X10_gain
  refine m_lay hI.G.2.1 (fun σ1 s1 o1 => ?_)
  have I1 := hI.scM s1.sc
  have hf : on5 (gm σ1 1) f := on5.tr o1 h54
  have hp1 : ∀ σ2, m5 σ1 σ2 → Post (gn σ1 x y b c f) σ2 := fun σ2 s2 => by
    rw [gn_c (s1.1 3 (by decide)) (s1.1 4 (by decide))]
    exact hp σ2 (s1.tr s2)
  have L : ∀ d e : Int, d = (if b = 1 ∧ jc1 σ1 x f then 1 else 0) → e = (if c = 1 ∧ jc1 σ1 y (tw σ1 x b f) then 1 else 0) → _ := fun d e hd he => m_leaf (Post := Post) (d := d) (e := e) I1 hx hy hf hd he hp1
  have S : ∀ {Q : Int → Prop} (d : Int), d = (if b = 1 ∧ jc1 σ1 x f then 1 else 0) → Q (bi (jc1 σ1 y (tw σ1 x b f))) → vc_X10_canSpread (up2 σ1 54 (5 + x).toNat ((σ1 54 (5 + x).toNat) + d)) 1 y Q := by
    intro Q d hd hq
    obtain ⟨a1, a2⟩ := m_up I1 hx hf hd
    have I2 := I1.scM a1.sc
    refine s_X10_canSpread (L := 1) I2.F.2.1 a1.2.2 (by decide) (by omega) ?_
    have e : csp (up2 σ1 54 (5 + x).toNat ((σ1 54 (5 + x).toNat) + d)) 1 y ↔ jc1 σ1 y (tw σ1 x b f) := by
      rw [m_c1 I2.F a2]
      unfold jc1 fre
      rw [a1.1 3 (by decide), a1.1 4 (by decide)]
    rw [bi_congr e]
    exact hq
  refine ⟨by omega, hb, fun k => ⟨by omega, hc, fun l => L 0 0 (by rw [if_neg (fun q => k q.1)]) (by rw [if_neg (fun q => l q.1)]), fun l => S 0 (by rw [if_neg (fun q => k q.1)]) (bi_eq (fun q => L 0 0 (by rw [if_neg (fun q => k q.1)]) (by rw [if_neg (fun w => q w.2)])) (fun q => L 0 1 (by rw [if_neg (fun q => k q.1)]) (by rw [if_pos ⟨l, q⟩])))⟩, fun k => s_X10_canSpread (L := 1) I1.F.2.1 s1.2.2 (by decide) (by omega) ?_⟩
  rw [bi_congr (m_c1 I1.F hf x)]
  refine bi_eq (fun w => ?_) (fun w => ?_)
  · have d0 : (0 : Int) = (if b = 1 ∧ jc1 σ1 x f then 1 else 0) := by rw [if_neg (fun q => w q.2)]
    exact ⟨by omega, hc, fun l => L 0 0 d0 (by rw [if_neg (fun q => l q.1)]), fun l => S 0 d0 (bi_eq (fun q => L 0 0 d0 (by rw [if_neg (fun w => q w.2)])) (fun q => L 0 1 d0 (by rw [if_pos ⟨l, q⟩])))⟩
  · have d1 : (1 : Int) = (if b = 1 ∧ jc1 σ1 x f then 1 else 0) := by rw [if_pos ⟨k, w⟩]
    exact ⟨by omega, hc, fun l => L 1 0 d1 (by rw [if_neg (fun q => l q.1)]), fun l => S 1 d1 (bi_eq (fun q => L 1 0 d1 (by rw [if_neg (fun w => q w.2)])) (fun q => L 1 1 d1 (by rw [if_pos ⟨l, q⟩])))⟩
theorem gn_rg (σ : GS) (x y b c : Int) (f : Nat → Int) (hb : 0 ≤ b ∧ b ≤ 1) : rg (gn σ x y b c f) := by
  have h1 := cF_rg σ (tp σ x y b c f) x
  have h2 := cF_rg σ (tp σ x y b c f) (y + 1)
  unfold gn
  omega
abbrev rs (σ : GS) (x y : Int) (f : Nat → Int) (p : Nat) : Prop := ¬ gn σ x y (p / 2 : Nat) (p % 2 : Nat) f < gn σ x y (1 - (p / 2 : Nat)) (p % 2 : Nat) f ∧ ¬ gn σ y x (p % 2 : Nat) (p / 2 : Nat) f < gn σ y x (1 - (p % 2 : Nat)) (p / 2 : Nat) f
theorem s_X10_isRest {σ : GS} {f : Nat → Int} {x y : Int} {p : Nat} {Post : Int → GS → Prop} (hI : Inv σ) (h54 : on5 (σ 54) f) (hx : 0 ≤ x ∧ x < 5) (hy : 0 ≤ y ∧ y < 5) (hp4 : p < 4) (hp : ∀ σ2, m5 σ σ2 → Post (bi (rs σ x y f p)) σ2) : vc_X10_isRest σ x y (p / 2 : Nat) (p % 2 : Nat) Post := by
  unfold vc_X10_isRest
  refine s_X10_gain hI h54 hx hy (by omega) (by omega) (fun σ1 s1 => ?_)
  have I1 := hI.scM s1.sc
  have o1 : on5 (σ1 54) f := fun g hg => (s1.2.1 g hg).trans (h54 g hg)
  refine s_X10_gain I1 o1 hx hy (by omega) (by omega) (fun σ2 s2 => ?_)
  have I2 := I1.scM s2.sc
  have o2 : on5 (σ2 54) f := fun g hg => (s2.2.1 g hg).trans (o1 g hg)
  rw [gn_c (σ' := σ1) (σ := σ) (s1.1 3 (by decide)) (s1.1 4 (by decide))]
  refine ⟨gn_rg _ _ _ _ _ _ (by omega), gn_rg _ _ _ _ _ _ (by omega), fun w => ?_, fun w => ?_⟩
  · have := hp σ2 (s1.tr s2)
    rw [bi_f (fun q => q.1 w)] at this
    exact this
  · refine s_X10_gain I2 o2 hy hx (by omega) (by omega) (fun σ3 s3 => ?_)
    have I3 := I2.scM s3.sc
    have o3 : on5 (σ3 54) f := fun g hg => (s3.2.1 g hg).trans (o2 g hg)
    refine s_X10_gain I3 o3 hy hx (by omega) (by omega) (fun σ4 s4 => ?_)
    have t2 := s1.tr s2
    have t3 := t2.tr s3
    rw [gn_c (σ' := σ2) (σ := σ) (t2.1 3 (by decide)) (t2.1 4 (by decide)), gn_c (σ' := σ3) (σ := σ) (t3.1 3 (by decide)) (t3.1 4 (by decide))]
    refine ⟨gn_rg _ _ _ _ _ _ (by omega), gn_rg _ _ _ _ _ _ (by omega), fun w2 => ?_, fun w2 => ?_⟩
    · have := hp σ4 (t3.tr s4)
      rw [bi_f (fun q => q.2 w2)] at this
      exact this
    · have := hp σ4 (t3.tr s4)
      rw [bi_t ⟨w, w2⟩] at this
      exact this
theorem rs_c {σ σ' : GS} (h3 : σ' 3 = σ 3) (h4 : σ' 4 = σ 4) (x y : Int) (f : Nat → Int) (p : Nat) : rs σ' x y f p ↔ rs σ x y f p := by
  unfold rs
  rw [gn_c h3 h4, gn_c h3 h4, gn_c h3 h4, gn_c h3 h4]
theorem cnt_fnd (P : Nat → Prop) [DecidablePred P] : ∀ n : Nat, cnt P n = 0 ↔ fnd P n = -9
  | 0 => ⟨fun _ => rfl, fun _ => rfl⟩
  | n + 1 => by
      have ih := cnt_fnd P n
      have h1 := cnt_rg P n
      have h2 := fnd_rg P n
      unfold cnt fnd
      by_cases c : P n
      · rw [if_pos c, if_pos c]
        split <;> omega
      · rw [if_neg c, if_neg c]
        split <;> omega
def rv (P : Nat → Prop) [DecidablePred P] (n : Nat) : Int := if fnd P n = -9 then -9 else 10 * (fnd P n / 2) + fnd P n % 2
theorem rv_s (P : Nat → Prop) [DecidablePred P] (n : Nat) : rv P (n + 1) = if P n ∧ fnd P n = -9 then 10 * ((n / 2 : Nat) : Int) + ((n % 2 : Nat) : Int) else rv P n := by
  have h2 := fnd_rg P n
  unfold rv
  show (if fnd P (n + 1) = -9 then _ else _) = _
  have e : fnd P (n + 1) = if 0 ≤ fnd P n then fnd P n else if P n then (n : Int) else -9 := rfl
  rw [e]
  by_cases c : 0 ≤ fnd P n
  · rw [if_pos c, if_neg (c := P n ∧ _) (by omega)]
  · rw [if_neg c]
    by_cases d : P n
    · rw [if_pos d, if_pos (c := P n ∧ _) ⟨d, by omega⟩, if_neg (by omega)]
      omega
    · rw [if_neg d, if_neg (c := P n ∧ _) (fun q => d q.1), if_pos rfl, if_pos (by omega)]
theorem rv_rg (P : Nat → Prop) [DecidablePred P] {n : Nat} (hn : n ≤ 4) : -9 ≤ rv P n ∧ rv P n ≤ 21 ∧ (rv P n = -9 ↔ fnd P n = -9) := by
  have h2 := fnd_rg P n
  unfold rv
  split <;> omega
