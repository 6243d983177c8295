/-! ===== the digits of a way ===== -/
theorem dv5 (w k : Nat) : w / 5 ^ k = 5 * (w / 5 ^ (k + 1)) + w / 5 ^ k % 5 := by
  rw [← dv_s w 5 k]
  omega
theorem le_digits {w w' : Nat} {G : Nat} (h1 : w' < 5 ^ G) (h : ∀ k, k < G → w' / 5 ^ k % 5 ≤ w / 5 ^ k % 5) : w' ≤ w := by
  have A : ∀ j, j ≤ G → w' / 5 ^ (G - j) ≤ w / 5 ^ (G - j) := by
    intro j
    induction j with
    | zero =>
        intro _
        rw [Nat.sub_zero, Nat.div_eq_of_lt h1]
        exact Nat.zero_le _
    | succ j ih =>
        intro hj
        have i1 := ih (by omega)
        have e1 := dv5 w' (G - (j + 1))
        have e2 := dv5 w (G - (j + 1))
        have h2 := h (G - (j + 1)) (by omega)
        rw [show G - (j + 1) + 1 = G - j by omega] at e1 e2
        omega
  have := A G (Nat.le_refl G)
  rw [Nat.sub_self, Nat.pow_zero, Nat.div_one, Nat.div_one] at this
  exact this
/-- the way after w when the gap at place m (from the right) is opened by one -/
def nxw (w m : Nat) : Nat := (w / 5 ^ m + 1) * 5 ^ m
theorem nxw_gt (w m : Nat) : w < nxw w m := by
  unfold nxw
  have h0 : 0 < 5 ^ m := Nat.pow_pos (by decide)
  have h1 := Nat.div_add_mod w (5 ^ m)
  have h2 := Nat.mod_lt w h0
  rw [Nat.add_mul, Nat.one_mul, Nat.mul_comm (w / 5 ^ m)]
  omega
theorem nxw_low {w m e : Nat} (h : e < m) : nxw w m / 5 ^ e % 5 = 0 := by
  unfold nxw
  rw [show m = e + (1 + (m - e - 1)) by omega, Nat.pow_add, Nat.pow_add]
  generalize w / (5 ^ e * (5 ^ 1 * 5 ^ (m - e - 1))) + 1 = q
  rw [show q * (5 ^ e * (5 ^ 1 * 5 ^ (m - e - 1))) = 5 ^ e * (5 * (q * 5 ^ (m - e - 1))) by
    rw [Nat.pow_one, Nat.mul_left_comm q, Nat.mul_left_comm q], Nat.mul_div_cancel_left _ (Nat.pow_pos (by decide)), Nat.mul_mod_right]
theorem nxw_mid (w m : Nat) : nxw w m / 5 ^ m = w / 5 ^ m + 1 := by
  unfold nxw
  exact Nat.mul_div_cancel _ (Nat.pow_pos (by decide))
theorem nxw_high {w m e : Nat} (h : m < e) (q : w / 5 ^ m % 5 < 4) : nxw w m / 5 ^ e = w / 5 ^ e := by
  have e1 := nxw_mid w m
  have A : ∀ x : Nat, x / 5 ^ e = x / 5 ^ m / 5 / 5 ^ (e - m - 1) := by
    intro x
    have e5 : 5 ^ e = 5 ^ m * (5 * 5 ^ (e - m - 1)) := by
      rw [← Nat.pow_succ', ← Nat.pow_add]
      congr 1
      omega
    rw [Nat.div_div_eq_div_mul, Nat.div_div_eq_div_mul, e5]
  rw [A, A, e1]
  congr 1
  omega
theorem nxw_lt {w m G : Nat} (h1 : w < 5 ^ G) (hm : m < G) (q : w / 5 ^ m % 5 < 4) : nxw w m < 5 ^ G := by
  have e : 5 ^ G = 5 ^ (G - m - 1) * 5 * 5 ^ m := by rw [← Nat.pow_succ, ← Nat.pow_add]; congr 1; omega
  have h2 : w / 5 ^ m < 5 ^ (G - m - 1) * 5 := by
    rw [Nat.div_lt_iff_lt_mul (Nat.pow_pos (by decide)), ← e]; exact h1
  have h3 : w / 5 ^ m + 1 < 5 ^ (G - m - 1) * 5 := by omega
  unfold nxw
  rw [e]
  exact Nat.mul_lt_mul_of_pos_right h3 (Nat.pow_pos (by decide))
theorem dg_nxw {w G g : Nat} (hg : g < G) (q : dg G w g < 4) (j : Nat) (hj : j < G) : dg G (nxw w (G - 1 - g)) j = if j < g then dg G w j else if j = g then dg G w g + 1 else 0 := by
  unfold dg at q ⊢
  by_cases c : j < g
  · rw [if_pos c, nxw_high (by omega) q]
  · rw [if_neg c]
    by_cases d : j = g
    · subst d
      rw [if_pos rfl, nxw_mid]
      omega
    · rw [if_neg d, nxw_low (by omega)]
/-- every gap behind g is as wide as it can be -/
def maxd (kd : Nat → Int) (G w g : Nat) : Prop := ∀ j, g ≤ j → j < G → (kd j = 3 ∨ dg G w j = 4)
theorem no_between {kd : Nat → Int} {G w g w2 : Nat} (hv : vld kd G w) (hw2 : w2 < 5 ^ G) (v2 : vld kd G w2) (hm : maxd kd G w (g + 1)) (hg : g < G) (h : w / 5 ^ (G - 1 - g) = w2 / 5 ^ (G - 1 - g)) : w2 ≤ w := by
  refine le_digits hw2 (fun k hk => ?_)
  by_cases c : G - 1 - g ≤ k
  · have A : ∀ x : Nat, x / 5 ^ k = x / 5 ^ (G - 1 - g) / 5 ^ (k - (G - 1 - g)) := by
      intro x
      rw [Nat.div_div_eq_div_mul, ← Nat.pow_add]
      congr 2
      omega
    rw [A w2, A w, h]
    exact Nat.le_refl _
  · have e : k = G - 1 - (G - 1 - k) := by omega
    have d1 := hm (G - 1 - k) (by omega) (by omega)
    have d2 := v2 (G - 1 - k) (by omega)
    have d3 := dg_lt G w2 (G - 1 - k)
    unfold dg at d1 d2 d3
    rw [← e] at d1 d2 d3
    rcases d1 with d1 | d1
    · rcases d2 with d2 | d2
      · exact absurd d1 d2
      · omega
    · omega
theorem no_after {kd : Nat → Int} {G w w2 : Nat} (hw2 : w2 < 5 ^ G) (v2 : vld kd G w2) (hm : maxd kd G w 0) : w2 ≤ w := by
  refine le_digits hw2 (fun k hk => ?_)
  have e : k = G - 1 - (G - 1 - k) := by omega
  have d1 := hm (G - 1 - k) (by omega) (by omega)
  have d2 := v2 (G - 1 - k) (by omega)
  have d3 := dg_lt G w2 (G - 1 - k)
  unfold dg at d1 d2 d3
  rw [← e] at d1 d2 d3
  rcases d1 with d1 | d1
  · rcases d2 with d2 | d2
    · exact absurd d1 d2
    · omega
  · omega
theorem nx_valid {kd : Nat → Int} {G w g : Nat} (hv : vld kd G w) (hg : g < G) (q : dg G w g < 4) (hf : kd g ≠ 3) : vld kd G (nxw w (G - 1 - g)) := by
  intro j hj
  rw [dg_nxw hg q j hj]
  by_cases c : j < g
  · rw [if_pos c]; exact hv j hj
  · rw [if_neg c]
    by_cases d : j = g
    · subst d; exact Or.inl hf
    · rw [if_neg d]; exact Or.inr rfl
theorem nx_none {kd : Nat → Int} {G w g w2 : Nat} (hv : vld kd G w) (hm : maxd kd G w (g + 1)) (hg : g < G) (hw : w < 5 ^ G) (q : dg G w g < 4) (h1 : w < w2) (h2 : w2 < nxw w (G - 1 - g)) : ¬ vld kd G w2 := by
  intro v2
  have h3 := nxw_lt hw (show G - 1 - g < G by omega) q
  have h0 : 0 < 5 ^ (G - 1 - g) := Nat.pow_pos (by decide)
  have l1 : w / 5 ^ (G - 1 - g) ≤ w2 / 5 ^ (G - 1 - g) := Nat.div_le_div_right (by omega)
  have l2 : w2 / 5 ^ (G - 1 - g) < w / 5 ^ (G - 1 - g) + 1 := by
    unfold nxw at h2
    rw [Nat.div_lt_iff_lt_mul h0]
    exact h2
  have := no_between hv (by omega) v2 hm hg (by omega)
  omega
