/-! ===== open ===== -/
def stp (σ : GS) (w : Nat) : Int := sm (fun g => ab (dgr (gG σ) w g - σ 7 g)) 5
def rdw (σ : GS) (a0 : Int) (w : Nat) : Int := rd a0 (ltw σ a0 w) (σ 22) (σ 21 1).toNat
theorem stp_rg {σ : GS} (hI : Inv σ) (w : Nat) : 0 ≤ stp σ w ∧ stp σ w ≤ 20 := by
  have := sm_rg (f := fun g => ab (dgr (gG σ) w g - σ 7 g)) (fun k => by
    have h1 := dgr_rg (gG σ) w k
    have h2 : 0 ≤ σ 7 k ∧ σ 7 k ≤ 4 := hI.G.1 k
    show 0 ≤ ab (dgr (gG σ) w k - σ 7 k) ∧ ab (dgr (gG σ) w k - σ 7 k) ≤ 4
    unfold ab
    split <;> omega) 5
  unfold stp
  omega
theorem x_steps {σ σ8 : GS} {side : Int} {w : Nat} {Post : Int → Prop} (hI : Inv σ) (h : XW σ side w σ8) (hp : Post (stp σ w)) : vc_X2_stepsFrom σ8 8 6 Post := by
  obtain ⟨h1, h2, h3, h4, h5, h7⟩ := h
  have e7 : σ8 (6 + 1) = σ 7 := h3.1 7 (by decide) (by decide) (by omega)
  have e9 : σ8 (8 + 1) = dgr (gG σ) w := h4
  refine s_X2_stepsFrom (Or.inr rfl) (Or.inl rfl) (by unfold GR; rw [e9]; exact dgr_rg _ _) (by unfold GR; rw [e7]; exact hI.G.1) ?_
  rw [e7, e9]
  exact hp
theorem m_far {σ σ9 : GS} {w : Nat} {Post : Int → Prop} (hI : Inv σ) (h : MW σ w σ9) (hp : Post (stp σ w)) : vc_X10_farOf σ9 Post := by
  have I9 := hI.scM h.1
  have hn := hI.F.1.1
  have g := gG_le hI
  refine s_X10_farOf I9.F.2.1 I9.G.2.1 ?_
  have eG : gN σ9 = gG σ := by unfold gN gG; rw [I9.F.2.2.1, h.1.1 3 (by decide) (by decide) (by decide) (by decide)]
  have e1 : sm (fun g => ab (gm σ9 1 g - gm σ9 0 g)) (gG σ) = sm (fun g => ab (dgr (gG σ) w g - σ 7 g)) (gG σ) := by
    refine sm_congr (fun k hk => ?_)
    have k5 : k < 5 := by omega
    have k0 : gm σ9 0 k = σ 7 k := by
      unfold gm
      rw [Nat.mul_zero, Nat.zero_add, h.1.2.2.1 k k5, hI.G.2.2.1 k k5]
    show ab (gm σ9 1 k - gm σ9 0 k) = ab (dgr (gG σ) w k - σ 7 k)
    rw [k0, h.2 k (by unfold gG at hk; omega)]
  have e2 := sm_tail (f := fun g => ab (dgr (gG σ) w g - σ 7 g)) (n := gG σ) (5 - gG σ) (fun k k1 k2 => by
    have z : σ 7 k = 0 := hI.G.2.2.2 k (by omega) (Or.inl (by unfold gG at k1; omega))
    have d : dgr (gG σ) w k = 0 := by unfold dgr; rw [if_neg (by omega)]
    show ab (dgr (gG σ) w k - σ 7 k) = 0
    rw [z, d]
    rfl)
  rw [show gG σ + (5 - gG σ) = 5 by omega] at e2
  rw [eG, e1, ← e2]
  exact hp
theorem x_read {σ σ8 : GS} {side : Int} {w : Nat} {Post : Int → Prop} (hI : Inv σ) (h : XW σ side w σ8) (hp : Post (bi (0 ≤ rdw σ side w))) : vc_X8_isRead σ8 Post := by
  have s := h.2.2.1
  have I8 := hI.scX s.sc
  refine s_X8_isRead h.2.2.2.2.1 I8.W.1 I8.F.2.2.2.2.1 ?_
  have e : rd (σ8 10 3) (lv_ σ8 63 (σ8 9)) (σ8 22) (σ8 21 1).toNat = rdw σ side w := by
    unfold rdw
    rw [h.2.2.2.2.2, s.1 22 (by decide) (by decide) (by omega), s.1 21 (by decide) (by decide) (by omega)]
    congr 1
    funext p
    exact x_ltw h p
  rw [e]
  exact hp
theorem m_read {σ σ9 : GS} {side : Int} {w : Nat} {Post : Int → Prop} (hI : Inv σ) (hs : side = 0 ∨ side = 1) (h : MW σ w σ9) (hp : Post (rdw σ side w)) : vc_X10_readsOn σ9 1 63 side Post := by
  have I9 := hI.scM h.1
  have f3 : σ9 3 = σ 3 := h.1.1 3 (by decide) (by decide) (by decide) (by decide)
  refine s_X10_readsOn (L := 1) I9.F.2.1 I9.G.2.1 I9.F.2.2.2.2.2.1 I9.W.2.1 (by decide) (by decide) hs ?_
  have := rd_XM I9 (gp := dgr (gG σ) w) (L := 1) (fun g hg => h.2 g (by rw [← f3]; exact hg)) hs 63
  rw [← this, f3, h.1.1 4 (by decide) (by decide) (by decide) (by decide), h.1.1 5 (by decide) (by decide) (by decide) (by decide), h.1.1 22 (by decide) (by decide) (by decide) (by decide), h.1.1 21 (by decide) (by decide) (by decide) (by decide)]
  exact hp
def stO (σ : GS) (a0 : Int) (w : Nat) (a : Int × Int) : Int × Int := if (a.1 = -9 ∨ ¬ a.1 ≤ stp σ w) ∧ 0 ≤ rdw σ a0 w then (stp σ w, fgw σ w) else a
theorem stO_b {σ : GS} (hI : Inv σ) (a0 : Int) (w : Nat) (a : Int × Int) (h : bnd a) : bnd (stO σ a0 w a) := by
  have h1 := stp_rg hI w
  have h2 := fgw_rg hI w
  unfold stO
  split
  · exact ⟨⟨by show -9 ≤ stp σ w; omega, by show stp σ w ≤ 100000; omega⟩, ⟨by show -9 ≤ fgw σ w; omega, by show fgw σ w ≤ 100000; omega⟩⟩
  · exact h
theorem s_X10_open {σ : GS} {a0 a1 : Int} {Post : Int → GS → Prop} (hI : Inv σ) (h0 : a0 = 0 ∨ a0 = 1) (h1 : a1 = 0 ∨ a1 = 1) (hp : ∀ σ', scM σ σ' → Post (if a1 = 0 then (fo (Vw σ) (stO σ a0) (-9, -9) (5 ^ gG σ)).1 else (fo (Vw σ) (stO σ a0) (-9, -9) (5 ^ gG σ)).2) σ') : vc_X10_open σ a0 a1 Post := by
  unfold vc_X10_open
  have g := gG_le hI
  refine ⟨by omega, s_X10_in (by omega) (by decide) (by decide) (bi_eq (fun c => absurd c (by omega)) (fun _ => ⟨by omega, s_X10_in (by omega) (by decide) (by decide) (bi_ne (fun _ => ?_) (fun c => absurd c (by omega)))⟩))⟩
  refine ⟨fun n v3 v4 v5 σ9 => ∃ w : Nat, w ≤ 5 ^ gG σ ∧ n = 5 ^ gG σ - w ∧ v5 = w ∧ (v3, v4) = fo (Vw σ) (stO σ a0) (-9, -9) w ∧ scM σ σ9, ⟨5 ^ gG σ, 0, by omega, by omega, rfl, rfl, scM.rf hI.G.2.1⟩, ?_⟩
  rintro n v3 v4 v5 σ9 ⟨w, q1, q2, rfl, q3, s⟩
  have hb : bnd (v3, v4) := by
    rw [q3]
    exact fo_all (P := bnd) ⟨by decide, by decide⟩ (fun m a h => stO_b hI a0 m a h) w
  have hb1 : -9 ≤ v3 ∧ v3 ≤ 100000 := hb.1
  refine m_many hI s ⟨by omega, by omega, fun z => ?_, fun z => ?_⟩
  · have e : w = 5 ^ gG σ := by omega
    subst e
    have := hp σ9 s
    rw [← q3] at this
    refine ⟨fun d => ?_, fun d => ?_⟩
    · rw [if_neg d] at this; exact this
    · rw [if_pos d] at this; exact this
  · have hw : w < 5 ^ gG σ := by omega
    have o1 : 5 ^ gG σ - (w + 1) < n := by omega
    have hs := stp_rg hI w
    have hr := rd_rg a0 (ltw σ a0 w) (σ 22) (σ 21 1).toNat
    have hr : rdw σ a0 w = -9 ∨ (0 ≤ rdw σ a0 w ∧ rdw σ a0 w < 28) := hr
    refine m_way hI s hw (fun σ2 mw => m_far hI mw (bi_eq (fun nv => ⟨5 ^ gG σ - (w + 1), o1, w + 1, hw, rfl, rfl, by rw [fo_f nv]; exact q3, mw.1⟩) (fun v => ⟨by omega, fun c => m_read hI h0 mw ⟨by omega, fun d => ⟨5 ^ gG σ - (w + 1), o1, w + 1, hw, rfl, rfl, ?_, mw.1⟩, fun d => m_fig hI mw ⟨5 ^ gG σ - (w + 1), o1, w + 1, hw, rfl, rfl, ?_, mw.1⟩⟩, fun c => ⟨by omega, fun k => ⟨5 ^ gG σ - (w + 1), o1, w + 1, hw, rfl, rfl, ?_, mw.1⟩, fun k => m_read hI h0 mw ⟨by omega, fun d => ⟨5 ^ gG σ - (w + 1), o1, w + 1, hw, rfl, rfl, ?_, mw.1⟩, fun d => m_fig hI mw ⟨5 ^ gG σ - (w + 1), o1, w + 1, hw, rfl, rfl, ?_, mw.1⟩⟩⟩⟩)))
    · rw [fo_t v, ← q3]; unfold stO; rw [if_neg (fun y => by have := y.2; omega)]
    · rw [fo_t v, ← q3]; unfold stO; rw [if_pos ⟨Or.inl c, by omega⟩]
    · rw [fo_t v, ← q3]; unfold stO; rw [if_neg (fun y => y.1.elim c (fun z => z k))]
    · rw [fo_t v, ← q3]; unfold stO; rw [if_neg (fun y => by have := y.2; omega)]
    · rw [fo_t v, ← q3]; unfold stO; rw [if_pos ⟨Or.inr k, by omega⟩]
theorem q_open {σ : GS} {a0 a1 : Int} {K : Int → Int → GS → Prop} (hI : Inv σ) (h0 : rg a0) (h1 : rg a1) (hK : ∀ z σ', rg z → Inv σ' → K z z σ') : vc_X9_open σ a0 a1 (fun z σ1 => vc_X10_open σ1 a0 a1 (fun z' σ2 => K z z' σ2)) := by
  unfold vc_X9_open
  have g := gG_le hI
  refine s_X9_isBit h0 (bi_eq (fun p0 => ?_) (fun p0 => s_X9_isBit h1 (bi_ne (fun p1 => x_begin hI p0 (fun σ7 xw => ?_)) (fun p1 => ?_))))
  · unfold vc_X10_open
    exact ⟨h0, s_X10_in (rl h0) (by decide) (by decide) (bi_eq (fun _ => hK _ _ (by decide) hI) (fun c => absurd c (by omega)))⟩
  · refine ⟨XI σ a0 (fo (Vw σ) (stO σ a0) (-9, -9)), ⟨5 ^ gG σ, Or.inr ⟨rfl, 0, xw, rfl, by omega, by omega, rfl⟩⟩, ?_⟩
    have fin : ∀ v3 v4 σ8, (v3, v4) = fo (Vw σ) (stO σ a0) (-9, -9) (5 ^ gG σ) → scX σ σ8 → (rg a1) ∧ ((¬ a1 = 0 → vc_X10_open σ8 a0 a1 (fun z' σ2 => K v4 z' σ2)) ∧ (a1 = 0 → vc_X10_open σ8 a0 a1 (fun z' σ2 => K v3 z' σ2))) := by
      intro v3 v4 σ8 hv s
      have I8 := hI.scX s
      have f3 : σ8 3 = σ 3 := s.1 3 (by decide) (by decide) (by omega) (by omega)
      have f4 : σ8 4 = σ 4 := s.1 4 (by decide) (by decide) (by omega) (by omega)
      have f5 : σ8 5 = σ 5 := s.1 5 (by decide) (by decide) (by omega) (by omega)
      have f7 : σ8 7 = σ 7 := s.1 7 (by decide) (by decide) (by omega) (by omega)
      have f21 : σ8 21 = σ 21 := s.1 21 (by decide) (by decide) (by omega) (by omega)
      have f22 : σ8 22 = σ 22 := s.1 22 (by decide) (by decide) (by omega) (by omega)
      have eG : gG σ8 = gG σ := by unfold gG; rw [f3]
      have hb : bnd (v3, v4) := by
        rw [hv]
        exact fo_all (P := bnd) ⟨by decide, by decide⟩ (fun m a h => stO_b hI a0 m a h) _
      have hb1 : -9 ≤ v3 ∧ v3 ≤ 100000 := hb.1
      have hb2 : -9 ≤ v4 ∧ v4 ≤ 100000 := hb.2
      have eA : fo (Vw σ8) (stO σ8 a0) (-9, -9) (5 ^ gG σ8) = (v3, v4) := by
        rw [hv]
        have e1 : stO σ8 a0 = stO σ a0 := by
          funext w a
          unfold stO stp rdw fgw ltw
          rw [f3, f4, f5, f7, f21, f22, eG]
        rw [e1, fo_c f3 f4, eG]
      refine ⟨h1, fun d => s_X10_open I8 p0 p1 (fun σ2 s2 => ?_), fun d => s_X10_open I8 p0 p1 (fun σ2 s2 => ?_)⟩
      · rw [eA, if_neg d]; exact hK _ _ (by omega) (I8.scM s2)
      · rw [eA, if_pos d]; exact hK _ _ (by omega) (I8.scM s2)
    rintro n v3 v4 v5 v6 σ8 (⟨rfl, q2, q3, q4, q5⟩ | ⟨rfl, w, xw, q2, q3, q4, q5⟩)
    · exact ⟨by decide, fun _ => fin v3 v4 σ8 q2 q3, fun c => absurd rfl c⟩
    · have hb : bnd (v3, v4) := by
        rw [q2]
        exact fo_all (P := bnd) ⟨by decide, by decide⟩ (fun m a h => stO_b hI a0 m a h) _
      have hb1 : -9 ≤ v3 ∧ v3 ≤ 100000 := hb.1
      have hw := xw.1
      have hs := stp_rg hI w
      refine ⟨by decide, fun c => absurd c (by decide), fun _ => ⟨by omega, fun c => absurd c (by omega), fun _ => x_steps hI xw ⟨by omega, fun c => x_read hI xw (bi_eq (fun d => x_next hI xw ?_ ⟨q3, q4⟩ q5) (fun d => x_fig xw (x_next hI xw ?_ ⟨q3, q4⟩ q5))), fun c => ⟨by omega, fun k => x_next hI xw ?_ ⟨q3, q4⟩ q5, fun k => x_read hI xw (bi_eq (fun d => x_next hI xw ?_ ⟨q3, q4⟩ q5) (fun d => x_fig xw (x_next hI xw ?_ ⟨q3, q4⟩ q5)))⟩⟩⟩⟩
      · rw [fo_t xw.2.1, ← q2]; unfold stO; rw [if_neg (fun y => d y.2)]
      · rw [fo_t xw.2.1, ← q2]; unfold stO; rw [if_pos ⟨Or.inl c, d⟩]
      · rw [fo_t xw.2.1, ← q2]; unfold stO; rw [if_neg (fun y => y.1.elim c (fun z => z k))]
      · rw [fo_t xw.2.1, ← q2]; unfold stO; rw [if_neg (fun y => d y.2)]
      · rw [fo_t xw.2.1, ← q2]; unfold stO; rw [if_pos ⟨Or.inr k, d⟩]
  · unfold vc_X10_open
    exact ⟨h0, s_X10_in (rl h0) (by decide) (by decide) (bi_eq (fun c => absurd c (by omega)) (fun _ => ⟨h1, s_X10_in (rl h1) (by decide) (by decide) (bi_ne (fun c => absurd c (by omega)) (fun _ => hK _ _ (by decide) hI))⟩))⟩
