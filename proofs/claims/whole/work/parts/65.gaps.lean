/-! ===== gaps ===== -/
abbrev spw (σ : GS) (w : Nat) : Prop := spd (ltw σ 0 w) (σ 45) (σ 46) (σ 47) (σ 44 3).toNat
theorem x_fits {σ σ8 : GS} {w : Nat} {Post : Int → Prop} (hI : Inv σ) (h : XW σ 0 w σ8) (hp : Post (bi (spw σ w))) : vc_X5_fits σ8 Post := by
  have s := h.2.2.1
  have I8 := hI.scX s.sc
  have f44 : σ8 44 = σ 44 := s.1 44 (by decide) (by decide) (by omega)
  have f45 : σ8 45 = σ 45 := s.1 45 (by decide) (by decide) (by omega)
  have f46 : σ8 46 = σ 46 := s.1 46 (by decide) (by decide) (by omega)
  have f47 : σ8 47 = σ 47 := s.1 47 (by decide) (by decide) (by omega)
  have hP := hI.P.1
  have h6 := hP.1
  unfold vc_X5_fits
  rw [f44, f45, f46, f47]
  obtain ⟨n, hn⟩ := Int.eq_ofNat_of_zero_le h6.1
  unfold spw at hp
  rw [hn, Int.toNat_natCast] at hp
  rw [hn]
  refine ⟨fun m v => ∃ i : Nat, i ≤ n ∧ m = n - i ∧ v = i ∧ spd (ltw σ 0 w) (σ 45) (σ 46) (σ 47) i, ⟨n, 0, by omega, by omega, rfl, fun k hk => absurd hk (Nat.not_lt_zero k)⟩, ?_⟩
  rintro m v ⟨i, q1, q2, rfl, q3⟩
  refine ⟨by omega, by omega, fun z => ?_, fun z => ⟨by omega, ?_⟩⟩
  · have e : i = n := by omega
    subst e
    exact pt q3 hp
  · rw [Int.toNat_natCast]
    have hr := hP.2 i
    refine s_X6_letterAt h.2.2.2.2.1 (by omega) ?_
    have rgl := lv_rg (σ := σ8) (set := 63) (gp := σ8 9) I8.F.2.2.2.2.1 (σ 45 i)
    rw [x_ltw h] at rgl ⊢
    have o1 : n - (i + 1) < m := by omega
    have o2 : i + 1 ≤ n := by omega
    have bad : ¬ (ltw σ 0 w (σ 45 i) = σ 46 i ↔ σ 47 i = 1) → Post 0 := fun y => pf (fun q => y (q i o2)) hp
    refine ⟨rgl, by omega, fun c => ⟨by omega, fun d => ⟨n - (i + 1), o1, i + 1, o2, rfl, rfl, spd_s.mpr ⟨q3, ?_⟩⟩, fun d => bad ?_⟩, fun c => ⟨by omega, fun d => ⟨n - (i + 1), o1, i + 1, o2, rfl, rfl, spd_s.mpr ⟨q3, ?_⟩⟩, fun d => bad ?_⟩⟩
    · exact ⟨fun y => absurd y c, fun y => by omega⟩
    · exact fun y => c (y.mpr (by omega))
    · exact ⟨fun _ => d.symm, fun _ => c⟩
    · exact fun y => d (y.mp c).symm
theorem m_fits {σ σ9 : GS} {w : Nat} {Post : Int → Prop} (hI : Inv σ) (h : MW σ w σ9) (hp : Post (bi (spw σ w))) : vc_X10_mayBe σ9 Post := by
  have I9 := hI.scM h.1
  refine s_X10_mayBe I9.F.2.1 I9.G.2.1 I9.F.2.2.2.2.2.1 I9.P.2.1 ?_
  have hP := hI.P
  have h6 := hP.1.1
  have e : spd (lM σ9 1 63 0) (σ9 60) (σ9 61) (σ9 62) (σ9 51 14).toNat ↔ spw σ w := by
    rw [h.1.1 60 (by decide) (by decide) (by decide) (by decide), h.1.1 61 (by decide) (by decide) (by decide) (by decide), h.1.1 62 (by decide) (by decide) (by decide) (by decide), h.1.2.1 14 (by decide), hP.2.2.1]
    have A : ∀ k : Nat, k < (σ 44 3).toNat → ((lM σ9 1 63 0 (σ 60 k) = σ 61 k ↔ σ 62 k = 1) ↔ (ltw σ 0 w (σ 45 k) = σ 46 k ↔ σ 47 k = 1)) := by
      intro k hk
      obtain ⟨e1, e2, e3⟩ := hP.2.2.2 k (by omega)
      have hr := (hP.2.1.2 k).2.1
      rw [m_ltw hI h (Or.inl rfl), e1, e2, e3]
      have := lM_n I9 1 63 0 (σ 60 k)
      have ee : (lM σ9 1 63 0 (σ 60 k) = σ 61 k) ↔ ((if sM σ9 1 63 0 (σ 60 k) < 0 then -9 else lM σ9 1 63 0 (σ 60 k) + 97) = σ 61 k + 97) := by
        split <;> omega
      rw [ee]
    exact ⟨fun q k hk => (A k hk).mp (q k hk), fun q k hk => (A k hk).mpr (q k hk)⟩
  rw [bi_congr e]
  exact hp
def stG (σ : GS) (w : Nat) (a : Int × Int) : Int × Int := if spw σ w then (a.1 + 1, if a.2 = -9 then fgw σ w else a.2) else a
theorem stG_b {σ : GS} (hI : Inv σ) : ∀ m : Nat, (0 ≤ (fo (Vw σ) (stG σ) (0, -9) m).1 ∧ (fo (Vw σ) (stG σ) (0, -9) m).1 ≤ m) ∧ (-9 ≤ (fo (Vw σ) (stG σ) (0, -9) m).2 ∧ (fo (Vw σ) (stG σ) (0, -9) m).2 ≤ 100000) ∧ ((fo (Vw σ) (stG σ) (0, -9) m).2 = -9 ↔ (fo (Vw σ) (stG σ) (0, -9) m).1 = 0)
  | 0 => ⟨⟨Int.le_refl _, Int.le_refl _⟩, ⟨Int.le_refl _, by show (-9 : Int) ≤ 100000; decide⟩, ⟨fun _ => rfl, fun _ => rfl⟩⟩
  | m + 1 => by
      obtain ⟨h1, h2, h3⟩ := stG_b hI m
      have hf := fgw_rg hI m
      by_cases v : Vw σ m
      · rw [fo_t v]
        generalize fo (Vw σ) (stG σ) (0, -9) m = a at h1 h2 h3
        unfold stG
        by_cases c : spw σ m
        · rw [if_pos c]
          dsimp only
          clear c v
          split <;> omega
        · rw [if_neg c]
          clear c v
          omega
      · rw [fo_f v]
        clear v
        omega
theorem s_X10_gaps {σ : GS} {a0 : Int} {Post : Int → GS → Prop} (hI : Inv σ) (h0 : a0 = 0 ∨ a0 = 1) (hp : ∀ σ', scM σ σ' → Post (if a0 = 0 then (fo (Vw σ) (stG σ) (0, -9) (5 ^ gG σ)).1 else (fo (Vw σ) (stG σ) (0, -9) (5 ^ gG σ)).2) σ') : vc_X10_gaps σ a0 Post := by
  unfold vc_X10_gaps
  have g := gG_le hI
  refine ⟨by omega, s_X10_in (by omega) (by decide) (by decide) (bi_ne (fun _ => ?_) (fun c => absurd c (by omega)))⟩
  refine ⟨fun n v3 v4 v5 σ9 => ∃ w : Nat, w ≤ 5 ^ gG σ ∧ n = 5 ^ gG σ - w ∧ v5 = w ∧ (v3, v4) = fo (Vw σ) (stG σ) (0, -9) w ∧ scM σ σ9, ⟨5 ^ gG σ, 0, by omega, by omega, rfl, rfl, scM.rf hI.G.2.1⟩, ?_⟩
  rintro n v3 v4 v5 σ9 ⟨w, q1, q2, rfl, q3, s⟩
  have hb := stG_b hI w
  rw [← q3] at hb
  dsimp only at hb
  refine m_many hI s ⟨by omega, by omega, fun z => ?_, fun z => ?_⟩
  · have e : w = 5 ^ gG σ := by omega
    subst e
    have := hp σ9 s
    rw [← q3] at this
    refine ⟨fun d => ?_, fun d => ?_⟩
    · rw [if_neg d] at this; exact this
    · rw [if_pos d] at this; exact this
  · have hw : w < 5 ^ gG σ := by omega
    have o1 : 5 ^ gG σ - (w + 1) < n := by omega
    have r3 : rg v3 := by omega
    have hiff := hb.2.2
    refine m_way hI s hw (fun σ2 mw => bi_eq (fun nv => ⟨5 ^ gG σ - (w + 1), o1, w + 1, hw, rfl, rfl, by rw [fo_f nv]; exact q3, mw.1⟩) (fun v => m_fits hI mw (bi_eq (fun c => ⟨5 ^ gG σ - (w + 1), o1, w + 1, hw, rfl, rfl, ?_, mw.1⟩) (fun c => ⟨r3, fun d => ⟨5 ^ gG σ - (w + 1), o1, w + 1, hw, rfl, rfl, ?_, mw.1⟩, fun d => m_fig hI mw ⟨5 ^ gG σ - (w + 1), o1, w + 1, hw, rfl, rfl, ?_, mw.1⟩⟩))))
    · rw [fo_t v, ← q3]; unfold stG; rw [if_neg c]
    · rw [fo_t v, ← q3]; unfold stG; rw [if_pos c]; dsimp only; rw [if_neg (fun y => d (hiff.mp y))]
    · rw [fo_t v, ← q3]; unfold stG; rw [if_pos c]; dsimp only; rw [if_pos (hiff.mpr d)]
theorem q_gaps {σ : GS} {a0 : Int} {K : Int → Int → GS → Prop} (hI : Inv σ) (h0 : rg a0) (hK : ∀ z σ', rg z → Inv σ' → K z z σ') : vc_X9_gaps σ a0 (fun z σ1 => vc_X10_gaps σ1 a0 (fun z' σ2 => K z z' σ2)) := by
  unfold vc_X9_gaps
  have g := gG_le hI
  refine s_X9_isBit h0 (bi_ne (fun p0 => x_begin hI (Or.inl rfl) (fun σ7 xw => ?_)) (fun p0 => ?_))
  · refine ⟨XI σ 0 (fo (Vw σ) (stG σ) (0, -9)), ⟨5 ^ gG σ, Or.inr ⟨rfl, 0, xw, rfl, by omega, by omega, rfl⟩⟩, ?_⟩
    have fin : ∀ v3 v4 σ8, (v3, v4) = fo (Vw σ) (stG σ) (0, -9) (5 ^ gG σ) → scX σ σ8 → (rg a0) ∧ ((¬ a0 = 0 → vc_X10_gaps σ8 a0 (fun z' σ2 => K v4 z' σ2)) ∧ (a0 = 0 → vc_X10_gaps σ8 a0 (fun z' σ2 => K v3 z' σ2))) := by
      intro v3 v4 σ8 hv s
      have I8 := hI.scX s
      have f3 : σ8 3 = σ 3 := s.1 3 (by decide) (by decide) (by omega) (by omega)
      have f4 : σ8 4 = σ 4 := s.1 4 (by decide) (by decide) (by omega) (by omega)
      have f5 : σ8 5 = σ 5 := s.1 5 (by decide) (by decide) (by omega) (by omega)
      have eG : gG σ8 = gG σ := by unfold gG; rw [f3]
      have hb := stG_b hI (5 ^ gG σ)
      rw [← hv] at hb
      dsimp only at hb
      have r3 : rg v3 := by omega
      have r4 : rg v4 := by omega
      have eA : fo (Vw σ8) (stG σ8) (0, -9) (5 ^ gG σ8) = (v3, v4) := by
        rw [hv]
        have e1 : stG σ8 = stG σ := by
          funext w a
          unfold stG spw fgw ltw
          rw [f3, f4, f5, eG, s.1 44 (by decide) (by decide) (by omega) (by omega), s.1 45 (by decide) (by decide) (by omega) (by omega), s.1 46 (by decide) (by decide) (by omega) (by omega), s.1 47 (by decide) (by decide) (by omega) (by omega)]
        rw [e1, fo_c f3 f4, eG]
      refine ⟨h0, fun d => s_X10_gaps I8 p0 (fun σ2 s2 => ?_), fun d => s_X10_gaps I8 p0 (fun σ2 s2 => ?_)⟩
      · rw [eA, if_neg d]; exact hK _ _ r4 (I8.scM s2)
      · rw [eA, if_pos d]; exact hK _ _ r3 (I8.scM s2)
    rintro n v3 v4 v5 v6 σ8 (⟨rfl, q2, q3, q4, q5⟩ | ⟨rfl, w, xw, q2, q3, q4, q5⟩)
    · exact ⟨by decide, fun _ => fin v3 v4 σ8 q2 q3, fun c => absurd rfl c⟩
    · have hb := stG_b hI w
      rw [← q2] at hb
      dsimp only at hb
      have r4 : rg v4 := by omega
      have hw := xw.1
      refine ⟨by decide, fun c => absurd c (by decide), fun _ => ⟨by omega, fun c => absurd c (by omega), fun _ => x_fits hI xw (bi_eq (fun c => x_next hI xw ?_ ⟨q3, q4⟩ q5) (fun c => ⟨r4, fun d => x_next hI xw ?_ ⟨q3, q4⟩ q5, fun d => x_fig xw (x_next hI xw ?_ ⟨q3, q4⟩ q5)⟩))⟩⟩
      · rw [fo_t xw.2.1, ← q2]; unfold stG; rw [if_neg c]
      · rw [fo_t xw.2.1, ← q2]; unfold stG; rw [if_pos c]; dsimp only; rw [if_neg d]
      · rw [fo_t xw.2.1, ← q2]; unfold stG; rw [if_pos c]; dsimp only; rw [if_pos d]
  · unfold vc_X10_gaps
    exact ⟨h0, s_X10_in (rl h0) (by decide) (by decide) (bi_ne (fun c => absurd c (by omega)) (fun _ => hK _ _ (by decide) hI))⟩
