/-! ===== the law ===== -/
theorem sc_rg (xs : Nat → Int32) (j : Nat) : rg (sc xs j) := by
  unfold sc
  have h1 := Int32.le_toInt (xs j)
  have h2 := Int32.toInt_lt (xs j)
  exact ⟨by omega, by omega⟩
theorem jn_rg (a b : Int) : rgL (jn a b) := by
  unfold jn
  generalize (((iI a).toInt64 <<< ((iI 32).toInt64 &&& 63)) ||| ((iI b).toInt64 &&& 4294967295)) = x
  have h1 := Int64.le_toInt x
  have h2 := Int64.toInt_lt x
  exact ⟨by omega, by omega⟩
set_option maxHeartbeats 4000000 in
theorem law_ok {L : Nat} (hL : L ≤ 2048) (xs : Nat → Int32) : vc_law L xs σ0 := by
  unfold vc_law
  refine ⟨fun n i σ => Inv σ ∧ 0 ≤ i ∧ i ≤ (L : Int) + 4 ∧ n = ((L : Int) + 4 - i).toNat, ⟨L + 4, Inv_0, by omega, by omega, by omega⟩, ?_⟩
  rintro n i σ ⟨hI, i0, i1, hn⟩
  refine ⟨by omega, by omega, fun _ => trivial, fun h => ?_⟩
  have nx : ∀ σ2, Inv σ2 → ∃ n' : Nat, n' < n ∧ (Inv σ2 ∧ 0 ≤ i + 4 ∧ i + 4 ≤ (L : Int) + 4 ∧ n' = ((L : Int) + 4 - (i + 4)).toNat) := fun σ2 hJ => ⟨((L : Int) + 4 - (i + 4)).toNat, by omega, hJ, by omega, by omega, rfl⟩
  have b0 : 0 ≤ i ∧ i < (L : Int) := by omega
  have b1 : 0 ≤ i + 1 ∧ i + 1 < (L : Int) := by omega
  have b2 : 0 ≤ i + 2 ∧ i + 2 < (L : Int) := by omega
  have b3 : 0 ≤ i + 3 ∧ i + 3 < (L : Int) := by omega
  have r1 := sc_rg xs (i + 1).toNat
  have r2 := sc_rg xs (i + 2).toNat
  have r3 := sc_rg xs (i + 3).toNat
  refine ⟨b0, by omega, fun _ => nx σ hI, fun _ => ⟨b1, q_write hI r1 (fun z σ2 hz hJ => ⟨hz, hz, fun _ => nx σ2 hJ, fun c => absurd rfl c⟩)⟩,
    fun _ => q_wipe hI (fun z σ2 hz hJ => ⟨hz, hz, fun _ => nx σ2 hJ, fun c => absurd rfl c⟩),
    fun _ => q_fault hI (fun z σ2 hz hJ => ⟨hz, hz, fun _ => nx σ2 hJ, fun c => absurd rfl c⟩),
    fun _ => q_fan hI (fun z σ2 hz hJ => ⟨hz, hz, fun _ => nx σ2 hJ, fun c => absurd rfl c⟩),
    fun _ => ⟨b1, b2, b3, q_word hI r1 (jn_rg _ _) (fun z σ2 hz hJ => ⟨hz, hz, fun _ => nx σ2 hJ, fun c => absurd rfl c⟩)⟩,
    fun _ => ⟨b1, b2, q_blade hI r1 r2 (fun z σ2 hz hJ => ⟨hz, hz, fun _ => nx σ2 hJ, fun c => absurd rfl c⟩)⟩,
    fun _ => ⟨b1, b2, b3, q_look hI r1 r2 r3 (fun z σ2 hz hJ => ⟨hz, hz, fun _ => nx σ2 hJ, fun c => absurd rfl c⟩)⟩,
    fun _ => ⟨b1, q_spread hI r1 (fun z σ2 hz hJ => ⟨hz, hz, fun _ => nx σ2 hJ, fun c => absurd rfl c⟩)⟩,
    fun _ => ⟨b1, q_fold hI r1 (fun z σ2 hz hJ => ⟨hz, hz, fun _ => nx σ2 hJ, fun c => absurd rfl c⟩)⟩,
    fun _ => q_fling hI (fun z σ2 hz hJ => ⟨hz, hz, fun _ => nx σ2 hJ, fun c => absurd rfl c⟩),
    fun _ => q_snap hI (fun z σ2 hz hJ => ⟨hz, hz, fun _ => nx σ2 hJ, fun c => absurd rfl c⟩),
    fun _ => q_undo hI (fun z σ2 hz hJ => ⟨hz, hz, fun _ => nx σ2 hJ, fun c => absurd rfl c⟩),
    fun _ => ⟨b1, q_reads hI r1 (fun z σ2 hz hJ => ⟨hz, hz, fun _ => nx σ2 hJ, fun c => absurd rfl c⟩)⟩,
    fun _ => ⟨b1, b2, q_open hI r1 r2 (fun z σ2 hz hJ => ⟨hz, hz, fun _ => nx σ2 hJ, fun c => absurd rfl c⟩)⟩,
    fun _ => ⟨b1, b2, q_most hI r1 r2 (fun z σ2 hz hJ => ⟨hz, hz, fun _ => nx σ2 hJ, fun c => absurd rfl c⟩)⟩,
    fun _ => ⟨b1, b2, b3, q_judge hI r1 (jn_rg _ _) (fun z σ2 hz hJ => ⟨hz, hz, fun _ => nx σ2 hJ, fun c => absurd rfl c⟩)⟩,
    fun _ => ⟨b1, b2, b3, q_spy hI r1 r2 r3 (fun z σ2 hz hJ => ⟨hz, hz, fun _ => nx σ2 hJ, fun c => absurd rfl c⟩)⟩,
    fun _ => q_unspy hI (fun z σ2 hz hJ => ⟨hz, hz, fun _ => nx σ2 hJ, fun c => absurd rfl c⟩),
    fun _ => ⟨b1, q_gaps hI r1 (fun z σ2 hz hJ => ⟨hz, hz, fun _ => nx σ2 hJ, fun c => absurd rfl c⟩)⟩,
    fun _ => ⟨b1, b2, r2, fun c => ?s0, fun c => ?s1⟩,
    fun _ => ⟨b1, b2, b3, q_rests hI r1 r2 r3 (fun z σ2 hz hJ => ⟨hz, hz, fun _ => nx σ2 hJ, fun c => absurd rfl c⟩)⟩,
    fun _ => ⟨b1, b2, b3, r3, fun c => ?d0, fun c => ?d1⟩,
    fun _ => ⟨b1, b2, q_seed hI (fun z σ2 hJ => ⟨lc_rg _ _, fun _ => nx σ2 hJ, fun c => absurd (lc_self z) c⟩)⟩,
    fun _ => ⟨b1, q_years hI r1 (fun z σ2 hz hJ => ⟨hz, hz, fun _ => nx σ2 hJ, fun c => absurd rfl c⟩)⟩,
    fun _ => ⟨b1, q_keep hI r1 (fun z σ2 hz hJ => ⟨hz, hz, fun _ => nx σ2 hJ, fun c => absurd rfl c⟩)⟩,
    fun _ => ⟨b1, q_again hI r1 (fun z σ2 hz hJ => ⟨hz, hz, fun _ => nx σ2 hJ, fun c => absurd rfl c⟩)⟩,
    fun _ => ⟨b1, q_count hI r1 (fun z σ2 hz hJ => ⟨hz, hz, fun _ => nx σ2 hJ, fun c => absurd rfl c⟩)⟩⟩
  case s0 =>
    refine s_X9_share hI r1 (by decide) (fun y => ⟨fun _ => ?_, fun _ => ?_⟩) (fun a N e1 e2 e3 e4 => ⟨fun _ => ?_, fun _ => ?_⟩)
    · exact s_X10_share hI r1 (by decide) (fun _ => ⟨by decide, by decide, fun _ => nx σ hI, fun c => absurd rfl c⟩) (fun a N e1 e2 e3 _ => absurd (show 0 ≤ sc xs (i + 1).toNat ∧ sc xs (i + 1).toNat < σ 3 2 by omega) y)
    · contradiction
    · refine s_X10_share hI r1 (by decide) (fun y => absurd (show 0 ≤ sc xs (i + 1).toNat ∧ sc xs (i + 1).toNat < σ 3 2 by omega) y) (fun a' N' e1' e2' e3' e4' => ?_)
      have ea : a' = a := by omega
      subst ea
      have eN : N' = N := by omega
      subst eN
      have hs := share_fr hI e2 e4 e3 0
      rw [← hs.1]
      exact ⟨hs.2, hs.2, fun _ => nx σ hI, fun c => absurd rfl c⟩
    · contradiction
  case s1 =>
    refine s_X9_share hI r1 (by decide) (fun y => ⟨fun _ => ?_, fun _ => ?_⟩) (fun a N e1 e2 e3 e4 => ⟨fun _ => ?_, fun _ => ?_⟩)
    · contradiction
    · exact s_X10_share hI r1 (by decide) (fun _ => ⟨by decide, by decide, fun _ => nx σ hI, fun c => absurd rfl c⟩) (fun a N e1 e2 e3 _ => absurd (show 0 ≤ sc xs (i + 1).toNat ∧ sc xs (i + 1).toNat < σ 3 2 by omega) y)
    · contradiction
    · refine s_X10_share hI r1 (by decide) (fun y => absurd (show 0 ≤ sc xs (i + 1).toNat ∧ sc xs (i + 1).toNat < σ 3 2 by omega) y) (fun a' N' e1' e2' e3' e4' => ?_)
      have ea : a' = a := by omega
      subst ea
      have eN : N' = N := by omega
      subst eN
      have hs := share_fr hI e2 e4 e3 1
      rw [← hs.1]
      exact ⟨hs.2, hs.2, fun _ => nx σ hI, fun c => absurd rfl c⟩
  case d0 =>
    refine s_X9_drops hI r1 r2 (by decide) (fun σ2 s => ⟨fun d => ?_, fun d => ?_⟩)
    · refine s_X10_drops (hI.scX s) r1 r2 (by decide) ?_
      rw [dropsV_c s]
      exact ⟨dropsV_rg hI _ _ _, dropsV_rg hI _ _ _, fun _ => nx σ2 (hI.scX s), fun c => absurd rfl c⟩
    · contradiction
  case d1 =>
    refine s_X9_drops hI r1 r2 (by decide) (fun σ2 s => ⟨fun d => ?_, fun d => ?_⟩)
    · contradiction
    · refine s_X10_drops (hI.scX s) r1 r2 (by decide) ?_
      rw [dropsV_c s]
      exact ⟨dropsV_rg hI _ _ _, dropsV_rg hI _ _ _, fun _ => nx σ2 (hI.scX s), fun c => absurd rfl c⟩
