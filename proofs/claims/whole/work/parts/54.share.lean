/-! ===== share ===== -/
theorem frac_mul {A B k : Nat} (hk : 0 < k) (a2 : Int) : frac (A * k) (B * k) a2 = frac A B a2 := by
  unfold frac
  rw [Nat.gcd_mul_right, Nat.mul_div_mul_right _ _ hk, Nat.mul_div_mul_right _ _ hk]
theorem frac_eq {A B A' B' : Nat} (hB : 0 < B) (hB' : 0 < B') (h : A * B' = A' * B) (a2 : Int) : frac A B a2 = frac A' B' a2 := by
  rw [← frac_mul (A := A) (B := B) hB', ← frac_mul (A := A') (B := B') hB, h, Nat.mul_comm B B']
def onN (s : Nat) : Nat → Nat
  | 0 => 0
  | n + 1 => onN s n + s / 2 ^ n % 2
def fct : Nat → Nat
  | 0 => 1
  | n + 1 => fct n * (n + 1)
def disB (s c : Nat) : Nat → Bool
  | 0 => true
  | n + 1 => disB s c n && !(s / 2 ^ n % 2 == 1 && c / 2 ^ n % 2 == 1)
def wN (n s : Nat) : Nat := fct (onN s 6) * fct (n - 1 - onN s 6)
def WN (n c : Nat) : Nat → Nat
  | 0 => 0
  | m + 1 => WN n c m + if disB m c n = true then wN n m else 0
theorem shapley : ∀ n, n < 7 → ∀ c, c < 2 ^ n → c ≠ 0 → WN n c (2 ^ n) * onN c n = fct n := by decide +kernel
theorem or_bit : ∀ s, s < 64 → ∀ a, a < 6 → ∀ b, b < 6 → ((s ||| 2 ^ a) / 2 ^ b % 2 = 1 ↔ (s / 2 ^ b % 2 = 1 ∨ b = a)) := by decide +kernel
theorem or_lt : ∀ s, s < 64 → ∀ a, a < 6 → (s ||| 2 ^ a) < 64 := by decide +kernel
def mk (P : Nat → Prop) [DecidablePred P] : Nat → Nat
  | 0 => 0
  | n + 1 => mk P n + if P n then 2 ^ n else 0
theorem mk_lt (P : Nat → Prop) [DecidablePred P] : ∀ n, mk P n < 2 ^ n
  | 0 => by show 0 < 1; decide
  | n + 1 => by
      have := mk_lt P n
      show mk P n + _ < _
      rw [Nat.pow_succ]
      split <;> omega
theorem mk_bit (P : Nat → Prop) [DecidablePred P] : ∀ n b, b < n → (mk P n / 2 ^ b % 2 = 1 ↔ P b)
  | 0, b, h => absurd h (Nat.not_lt_zero b)
  | n + 1, b, h => by
      have hl := mk_lt P n
      show (mk P n + (if P n then 2 ^ n else 0)) / 2 ^ b % 2 = 1 ↔ P b
      by_cases e : b = n
      · subst e
        have h0 : 0 < 2 ^ b := Nat.pow_pos (by decide)
        by_cases c : P b
        · rw [if_pos c, Nat.add_div_right _ h0, Nat.div_eq_of_lt hl]
          exact ⟨fun _ => c, fun _ => rfl⟩
        · rw [if_neg c, Nat.add_zero, Nat.div_eq_of_lt hl]
          exact ⟨fun q => absurd q (by decide), fun q => absurd q c⟩
      · have ih := mk_bit P n b (by omega)
        have h0 : 0 < 2 ^ b := Nat.pow_pos (by decide)
        by_cases c : P n
        · rw [if_pos c, show n = b + 1 + (n - b - 1) by omega, Nat.pow_add, Nat.pow_succ, Nat.mul_assoc]
          rw [show b + 1 + (n - b - 1) = n by omega, Nat.add_mul_div_left _ _ h0]
          generalize mk P n / 2 ^ b = x at ih
          generalize 2 ^ (n - b - 1) = y
          rw [← ih]
          omega
        · rw [if_neg c, Nat.add_zero]; exact ih
theorem onN_cnt (s : Nat) {P : Nat → Prop} [DecidablePred P] : ∀ n, (∀ b, b < n → (s / 2 ^ b % 2 = 1 ↔ P b)) → (onN s n : Int) = cnt P n
  | 0, _ => rfl
  | n + 1, h => by
      have ih := onN_cnt s (P := P) n (fun b hb => h b (by omega))
      have hn := h n (by omega)
      show ((onN s n + s / 2 ^ n % 2 : Nat) : Int) = cnt P n + (if P n then 1 else 0)
      rw [← ih]
      by_cases c : P n
      · rw [if_pos c]; have := hn.mpr c; omega
      · rw [if_neg c]; have : ¬ s / 2 ^ n % 2 = 1 := fun q => c (hn.mp q); omega
theorem disB_iff (s c : Nat) : ∀ n, disB s c n = true ↔ ∀ b, b < n → ¬ (s / 2 ^ b % 2 = 1 ∧ c / 2 ^ b % 2 = 1)
  | 0 => ⟨fun _ b hb => absurd hb (Nat.not_lt_zero b), fun _ => rfl⟩
  | n + 1 => by
      have ih := disB_iff s c n
      show (disB s c n && !(s / 2 ^ n % 2 == 1 && c / 2 ^ n % 2 == 1)) = true ↔ _
      rw [Bool.and_eq_true, ih]
      simp only [Bool.not_eq_true', Bool.and_eq_false_iff, beq_eq_false_iff_ne]
      refine ⟨fun q b hb w => ?_, fun q => ⟨fun b hb => q b (by omega), ?_⟩⟩
      · by_cases e : b = n
        · subst e
          rcases q.2 with r | r
          · exact r w.1
          · exact r w.2
        · exact q.1 b (by omega) w
      · have := q n (by omega)
        by_cases r : s / 2 ^ n % 2 = 1
        · exact Or.inr (fun w => this ⟨r, w⟩)
        · exact Or.inl r
theorem seen_iff {side set : Int} {kd gp : Nat → Int} {p : Int} : ∀ n : Nat, 0 ≤ seen side set kd gp p n ↔ ∃ b, b < n ∧ hs set b ∧ sol (kd b) (p - sm gp b)
  | 0 => ⟨fun h => absurd h (by show ¬ (0 : Int) ≤ -9; decide), fun ⟨b, hb, _⟩ => absurd hb (Nat.not_lt_zero b)⟩
  | n + 1 => by
      have ih := seen_iff (side := side) (set := set) (kd := kd) (gp := gp) (p := p) n
      have hr := seen_rg side set kd gp p n
      have hr2 : seen side set kd gp p n = -9 ∨ 0 ≤ seen side set kd gp p n := by
        rcases hr with q | q
        · exact Or.inl q
        · exact Or.inr q.1
      unfold seen
      split
      · rename_i q
        exact ⟨fun _ => ⟨n, by omega, q.1.1, q.1.2⟩, fun _ => by omega⟩
      · rename_i q
        rw [ih]
        refine ⟨fun ⟨b, hb, h⟩ => ⟨b, by omega, h⟩, fun ⟨b, hb, h⟩ => ?_⟩
        by_cases e : b = n
        · subst e
          by_cases z : 0 ≤ seen side set kd gp p b
          · exact ih.mp z
          · exact absurd ⟨h, Or.inr (by omega)⟩ q
        · exact ⟨b, by omega, h⟩
theorem cnt_diff {P Q A : Nat → Prop} [DecidablePred P] [DecidablePred Q] [DecidablePred A] : ∀ n : Nat, (∀ k, k < n → (P k ↔ (Q k ∨ A k))) → cnt P n - cnt Q n = sm (fun k => if A k ∧ ¬ Q k then 1 else 0) n
  | 0, _ => rfl
  | n + 1, h => by
      have ih := cnt_diff (P := P) (Q := Q) (A := A) n (fun k hk => h k (by omega))
      have hn := h n (by omega)
      show (cnt P n + (if P n then 1 else 0)) - (cnt Q n + (if Q n then 1 else 0)) = sm _ n + (if A n ∧ ¬ Q n then 1 else 0)
      rw [← ih]
      by_cases q : Q n
      · rw [if_pos (hn.mpr (Or.inl q)), if_pos q, if_neg (fun w => w.2 q)]; omega
      · rw [if_neg q]
        by_cases a : A n
        · rw [if_pos (hn.mpr (Or.inr a)), if_pos ⟨a, q⟩]; omega
        · rw [if_neg (fun w => (hn.mp w).elim q a), if_neg (fun w => a w.1)]; omega
theorem sm_add (f g : Nat → Int) : ∀ n, sm (fun k => f k + g k) n = sm f n + sm g n
  | 0 => rfl
  | n + 1 => by
      have := sm_add f g n
      show sm (fun k => f k + g k) n + (f n + g n) = (sm f n + f n) + (sm g n + g n)
      omega
theorem sm_mul (f : Nat → Int) (c : Int) : ∀ n, c * sm f n = sm (fun k => c * f k) n
  | 0 => by show c * 0 = 0; omega
  | n + 1 => by
      have := sm_mul f c n
      show c * (sm f n + f n) = sm (fun k => c * f k) n + c * f n
      rw [Int.mul_add, this]
theorem sm_app (f : Nat → Int) (m : Nat) : ∀ n, sm f (m + n) = sm f m + sm (fun k => f (m + k)) n
  | 0 => by show sm f m = sm f m + 0; omega
  | n + 1 => by
      have := sm_app f m n
      show sm f (m + n) + f (m + n) = sm f m + (sm (fun k => f (m + k)) n + f (m + n))
      omega
theorem sm_zero {f : Nat → Int} : ∀ n, (∀ k, k < n → f k = 0) → sm f n = 0
  | 0, _ => rfl
  | n + 1, h => by
      show sm f n + f n = 0
      rw [sm_zero n (fun k hk => h k (by omega)), h n (by omega)]
      rfl
theorem sm_win {F : Nat → Int} {kd : Int} {B : Nat} (hB : B ≤ 24) : sm (fun p => if sol kd ((p : Int) - B) then F p else 0) 28 = sm (fun c => if sol kd (c : Int) then F (B + c) else 0) 4 := by
  have e : 28 = B + (4 + (24 - B)) := by omega
  have h1 := sm_app (fun p : Nat => if sol kd ((p : Int) - B) then F p else 0) B (4 + (24 - B))
  rw [← e] at h1
  rw [h1, sm_zero B (fun k hk => by rw [if_neg (fun q => by have := q.1; omega)]), sm_app, sm_zero (24 - B) (fun k hk => by
    show (if sol kd ((((B + (4 + k)) : Nat) : Int) - B) then F (B + (4 + k)) else 0) = 0
    rw [if_neg (fun q => by have := q.2.1; omega)]), Int.zero_add, Int.add_zero]
  refine sm_congr (fun k hk => ?_)
  rw [show ((((B + k : Nat)) : Int) - B) = (k : Int) by omega]
