/-! ===== pure words ===== -/
def bi (p : Prop) [Decidable p] : Int := if p then 1 else 0
theorem bi_t {p : Prop} [Decidable p] (h : p) : bi p = 1 := if_pos h
theorem bi_f {p : Prop} [Decidable p] (h : ¬ p) : bi p = 0 := if_neg h
theorem bi_rg {p : Prop} [Decidable p] : rg (bi p) := by unfold bi; split <;> decide
theorem bi_01 {p : Prop} [Decidable p] : bi p = 0 ∨ bi p = 1 := by unfold bi; split <;> simp
theorem bi_0 {p : Prop} [Decidable p] : bi p = 0 ↔ ¬ p := by unfold bi; split <;> simp [*]
theorem bi_1 {p : Prop} [Decidable p] : bi p = 1 ↔ p := by unfold bi; split <;> simp [*]
theorem bi_n0 {p : Prop} [Decidable p] : ¬ bi p = 0 ↔ p := by unfold bi; split <;> simp [*]
theorem bi_eq {p : Prop} [Decidable p] {A B : Prop} (h1 : ¬ p → A) (h2 : p → B) : (rg (bi p)) ∧ ((bi p = 0 → A) ∧ (¬ bi p = 0 → B)) := ⟨bi_rg, fun h => h1 (bi_0.mp h), fun h => h2 (bi_n0.mp h)⟩
theorem bi_ne {p : Prop} [Decidable p] {A B : Prop} (h1 : p → A) (h2 : ¬ p → B) : (rg (bi p)) ∧ ((¬ bi p = 0 → A) ∧ (bi p = 0 → B)) := ⟨bi_rg, fun h => h1 (bi_n0.mp h), fun h => h2 (bi_0.mp h)⟩
theorem bi_congr {p q : Prop} [Decidable p] [Decidable q] (h : p ↔ q) : bi p = bi q := by unfold bi; simp [h]
def sm (f : Nat → Int) : Nat → Int
  | 0 => 0
  | n + 1 => sm f n + f n
theorem sm_congr {f g : Nat → Int} : ∀ {n : Nat}, (∀ k, k < n → f k = g k) → sm f n = sm g n
  | 0, _ => rfl
  | n + 1, h => by rw [sm, sm, sm_congr (fun k hk => h k (by omega)), h n (by omega)]
theorem sm_rg {f : Nat → Int} (h : ∀ k, 0 ≤ f k ∧ f k ≤ 4) : ∀ n : Nat, 0 ≤ sm f n ∧ sm f n ≤ 4 * n
  | 0 => by simp [sm]
  | n + 1 => by
    have h1 := sm_rg h n
    have h2 := h n
    simp only [sm]
    omega
theorem sm_mono {f : Nat → Int} (h : ∀ k, 0 ≤ f k) (a : Nat) : ∀ n : Nat, sm f a ≤ sm f (a + n)
  | 0 => Int.le_refl _
  | n + 1 => by
    have h1 := sm_mono h a n
    have h2 := h (a + n)
    show sm f a ≤ sm f (a + n) + f (a + n)
    omega
theorem sm_le {f : Nat → Int} (h : ∀ k, 0 ≤ f k) {a b : Nat} (hab : a ≤ b) : sm f a ≤ sm f b := by
  have := sm_mono h a (b - a)
  rwa [show a + (b - a) = b by omega] at this
def cnt (P : Nat → Prop) [DecidablePred P] : Nat → Int
  | 0 => 0
  | n + 1 => cnt P n + (if P n then 1 else 0)
theorem cnt_congr {P Q : Nat → Prop} [DecidablePred P] [DecidablePred Q] : ∀ {n : Nat}, (∀ k, k < n → (P k ↔ Q k)) → cnt P n = cnt Q n
  | 0, _ => rfl
  | n + 1, h => by
    rw [cnt, cnt, cnt_congr (fun k hk => h k (by omega))]
    simp [h n (by omega)]
theorem cnt_rg (P : Nat → Prop) [DecidablePred P] : ∀ n : Nat, 0 ≤ cnt P n ∧ cnt P n ≤ n
  | 0 => by simp [cnt]
  | n + 1 => by
    have := cnt_rg P n
    simp only [cnt]
    split <;> omega
theorem cnt_stop {P : Nat → Prop} [DecidablePred P] {m : Nat} (h : ∀ k, m ≤ k → ¬ P k) : ∀ n : Nat, cnt P (m + n) = cnt P m
  | 0 => rfl
  | n + 1 => by
    show cnt P (m + n) + (if P (m + n) then 1 else 0) = cnt P m
    rw [if_neg (h _ (by omega)), cnt_stop h n]
    omega
/-- the last place + 1 of those below n -/
def lst (P : Nat → Prop) [DecidablePred P] : Nat → Int
  | 0 => 0
  | n + 1 => if P n then (n : Int) + 1 else lst P n
theorem lst_congr {P Q : Nat → Prop} [DecidablePred P] [DecidablePred Q] : ∀ {n : Nat}, (∀ k, k < n → (P k ↔ Q k)) → lst P n = lst Q n
  | 0, _ => rfl
  | n + 1, h => by
    rw [lst, lst, lst_congr (fun k hk => h k (by omega))]
    simp [h n (by omega)]
theorem lst_rg (P : Nat → Prop) [DecidablePred P] : ∀ n : Nat, 0 ≤ lst P n ∧ lst P n ≤ n
  | 0 => by simp [lst]
  | n + 1 => by
    have := lst_rg P n
    simp only [lst]
    split <;> omega
theorem lst_stop {P : Nat → Prop} [DecidablePred P] {m : Nat} (h : ∀ k, m ≤ k → ¬ P k) : ∀ n : Nat, lst P (m + n) = lst P m
  | 0 => rfl
  | n + 1 => by
    show (if P (m + n) then ((m + n : Nat) : Int) + 1 else lst P (m + n)) = lst P m
    rw [if_neg (h _ (by omega)), lst_stop h n]
/-- the first place of those below n; -9: none -/
def fnd (P : Nat → Prop) [DecidablePred P] : Nat → Int
  | 0 => -9
  | n + 1 => if 0 ≤ fnd P n then fnd P n else if P n then (n : Int) else -9
/-- the last one -/
def fndL (P : Nat → Prop) [DecidablePred P] : Nat → Int
  | 0 => -9
  | n + 1 => if P n then (n : Int) else fndL P n
theorem fnd_none {P : Nat → Prop} [DecidablePred P] : ∀ {n : Nat}, (∀ k, k < n → ¬ P k) → fnd P n = -9
  | 0, _ => rfl
  | n + 1, h => by
    rw [fnd, fnd_none (fun k hk => h k (by omega)), if_neg (by omega), if_neg (h n (by omega))]
theorem fnd_at {P : Nat → Prop} [DecidablePred P] {k : Nat} (hk : P k) (h : ∀ j, j < k → ¬ P j) : ∀ n : Nat, fnd P (k + 1 + n) = k
  | 0 => by
    show fnd P (k + 1) = k
    rw [fnd, fnd_none h, if_neg (by omega), if_pos hk]
  | n + 1 => by
    show fnd P (k + 1 + n + 1) = k
    rw [fnd, fnd_at hk h n, if_pos (by omega)]
theorem fndL_none {P : Nat → Prop} [DecidablePred P] : ∀ {n : Nat}, (∀ k, k < n → ¬ P k) → fndL P n = -9
  | 0, _ => rfl
  | n + 1, h => by
    rw [fndL, if_neg (h n (by omega)), fndL_none (fun k hk => h k (by omega))]
theorem fndL_at {P : Nat → Prop} [DecidablePred P] {k : Nat} (hk : P k) : ∀ n : Nat, (∀ j, k < j → j < k + 1 + n → ¬ P j) → fndL P (k + 1 + n) = k
  | 0, _ => by
    show fndL P (k + 1) = k
    rw [fndL, if_pos hk]
  | n + 1, h => by
    show fndL P (k + 1 + n + 1) = k
    rw [fndL, if_neg (h _ (by omega) (by omega)), fndL_at hk n (fun j h1 h2 => h j h1 (by omega))]
theorem fnd_congr {P Q : Nat → Prop} [DecidablePred P] [DecidablePred Q] : ∀ {n : Nat}, (∀ k, k < n → (P k ↔ Q k)) → fnd P n = fnd Q n
  | 0, _ => rfl
  | n + 1, h => by
    rw [fnd, fnd, fnd_congr (fun k hk => h k (by omega))]
    simp [h n (by omega)]
theorem fndL_congr {P Q : Nat → Prop} [DecidablePred P] [DecidablePred Q] : ∀ {n : Nat}, (∀ k, k < n → (P k ↔ Q k)) → fndL P n = fndL Q n
  | 0, _ => rfl
  | n + 1, h => by
    rw [fndL, fndL, fndL_congr (fun k hk => h k (by omega))]
    simp [h n (by omega)]
theorem fnd_rg (P : Nat → Prop) [DecidablePred P] : ∀ n : Nat, fnd P n = -9 ∨ (0 ≤ fnd P n ∧ fnd P n < n)
  | 0 => Or.inl rfl
  | n + 1 => by
    have := fnd_rg P n
    simp only [fnd]
    split
    · omega
    · split <;> omega
theorem fndL_rg (P : Nat → Prop) [DecidablePred P] : ∀ n : Nat, fndL P n = -9 ∨ (0 ≤ fndL P n ∧ fndL P n < n)
  | 0 => Or.inl rfl
  | n + 1 => by
    have := fndL_rg P n
    simp only [fndL]
    split <;> omega
/-! ===== a fan: kinds kd, gaps gp; place p ===== -/
/-- cell c of a blade of kind k is there and no hole -/
abbrev sol (k c : Int) : Prop := 0 ≤ c ∧ c < 4 ∧ (k = 1 → c % 2 = 0) ∧ (k = 2 → c < 2)
abbrev hs (set : Int) (b : Nat) : Prop := set / 2 ^ b % 2 = 1
/-- the blade seen at p of the first n ones; -9: none -/
def seen (side set : Int) (kd gp : Nat → Int) (p : Int) : Nat → Int
  | 0 => -9
  | b + 1 => if (hs set b ∧ sol (kd b) (p - sm gp b)) ∧ (side = 0 ∨ seen side set kd gp p b < 0) then (b : Int) else seen side set kd gp p b
theorem seen_rg (side set : Int) (kd gp : Nat → Int) (p : Int) : ∀ n : Nat, seen side set kd gp p n = -9 ∨ (0 ≤ seen side set kd gp p n ∧ seen side set kd gp p n < n ∧ sol (kd (seen side set kd gp p n).toNat) (p - sm gp (seen side set kd gp p n).toNat))
  | 0 => Or.inl rfl
  | b + 1 => by
    have ih := seen_rg side set kd gp p b
    simp only [seen]
    split
    · rename_i h
      right
      refine ⟨by omega, by omega, ?_⟩
      rw [Int.toNat_natCast]
      exact h.1.2
    · rcases ih with h | h
      · exact Or.inl h
      · exact Or.inr ⟨h.1, by omega, h.2.2⟩
theorem seen_congr {side set : Int} {kd gp kd' gp' : Nat → Int} {p : Int} : ∀ {n : Nat}, (∀ b, b < n → kd b = kd' b) → (∀ g, g + 1 < n → gp g = gp' g) → seen side set kd gp p n = seen side set kd' gp' p n
  | 0, _, _ => rfl
  | b + 1, h1, h2 => by
    simp only [seen]
    rw [seen_congr (n := b) (fun c hc => h1 c (by omega)) (fun g hg => h2 g (by omega)), h1 b (by omega), sm_congr (f := gp) (g := gp') (n := b) (fun g hg => h2 g (by omega))]
/-- no blade reaches so far -/
theorem seen_far {side set : Int} {kd gp : Nat → Int} {p : Int} (hg : ∀ k, 0 ≤ gp k) {m : Nat} (hp : sm gp m + 4 ≤ p) : ∀ {n : Nat}, n ≤ m + 1 → seen side set kd gp p n = -9
  | 0, _ => rfl
  | b + 1, h => by
    have ih := seen_far (side := side) (set := set) (kd := kd) hg hp (n := b) (by omega)
    have := sm_le hg (show b ≤ m by omega)
    simp only [seen]
    rw [if_neg (by rintro ⟨⟨-, h1, h2, -⟩, -⟩; omega), ih]
theorem seen_neg {side set : Int} {kd gp : Nat → Int} {p : Int} (hg : ∀ k, 0 ≤ gp k) (hp : p < 0) : ∀ {n : Nat}, seen side set kd gp p n = -9
  | 0 => rfl
  | b + 1 => by
    have ih := seen_neg (side := side) (set := set) (kd := kd) hg hp (n := b)
    have := sm_le hg (Nat.zero_le b)
    simp only [sm] at this
    simp only [seen]
    rw [if_neg (by rintro ⟨⟨-, h1, h2, -⟩, -⟩; omega), ih]
/-- a blade's number, the side, the cell -/
def mkv (side set : Int) (kd gp : Nat → Int) (n : Nat) (p : Int) : Int := if seen side set kd gp p n < 0 then -9 else seen side set kd gp p n * 8 + side * 4 + (p - sm gp (seen side set kd gp p n).toNat)
