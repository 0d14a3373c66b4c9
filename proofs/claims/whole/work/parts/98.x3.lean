/-! sums -/
/-! sums -/
def sm (f : Nat → Rat) : Nat → Rat
  | 0 => 0
  | n + 1 => sm f n + f n
theorem sm_congr {f g : Nat → Rat} : ∀ n, (∀ i, i < n → f i = g i) → sm f n = sm g n
  | 0, _ => rfl
  | n + 1, h => by
    rw [sm, sm, sm_congr n (fun i hi => h i (by omega)), h n (by omega)]
theorem sm_le {f g : Nat → Rat} : ∀ n, (∀ i, i < n → f i ≤ g i) → sm f n ≤ sm g n
  | 0, _ => Rat.le_refl
  | n + 1, h => by
    have h1 := sm_le n (fun i hi => h i (by omega))
    have h2 := h n (by omega)
    rw [sm, sm]
    grind
theorem sm_add (f g : Nat → Rat) : ∀ n, sm (fun i => f i + g i) n = sm f n + sm g n
  | 0 => by rw [sm, sm, sm]; grind
  | n + 1 => by rw [sm, sm, sm, sm_add f g n]; grind
theorem sm_sub (f g : Nat → Rat) : ∀ n, sm (fun i => f i - g i) n = sm f n - sm g n
  | 0 => by rw [sm, sm, sm]; grind
  | n + 1 => by rw [sm, sm, sm, sm_sub f g n]; grind
theorem sm_mul (a : Rat) (f : Nat → Rat) : ∀ n, sm (fun i => a * f i) n = a * sm f n
  | 0 => by rw [sm, sm]; grind
  | n + 1 => by rw [sm, sm, sm_mul a f n]; grind
theorem sm_const (a : Rat) : ∀ n, sm (fun _ => a) n = n * a
  | 0 => by rw [sm]; show 0 = 0 * a; grind
  | n + 1 => by rw [sm, sm_const a n, Rat.natCast_add]; show _ = (_ + 1) * a; grind
theorem sm_nn {f : Nat → Rat} (n : Nat) (h : ∀ i, i < n → 0 ≤ f i) : 0 ≤ sm f n := by
  have := sm_le (f := fun _ => 0) n h
  rw [sm_const] at this
  grind
theorem sm_0 {f : Nat → Rat} (n : Nat) (h : ∀ i, i < n → f i = 0) : sm f n = 0 := by
  rw [sm_congr (g := fun _ => 0) n h, sm_const]
  grind
theorem sm_ab {f : Nat → Rat} : ∀ n, ab (sm f n) ≤ sm (fun i => ab (f i)) n
  | 0 => by rw [sm, sm, ab_of (by decide)]; exact Rat.le_refl
  | n + 1 => by
    have := sm_ab (f := f) n
    have := ab_add (sm f n) (f n)
    rw [sm, sm]
    grind
theorem sm_one {f : Nat → Rat} : ∀ n j, j < n → (∀ i, i < n → 0 ≤ f i) → f j ≤ sm f n
  | 0, j, h, _ => by omega
  | n + 1, j, h, h0 => by
    rw [sm]
    have h2 := h0 n (by omega)
    by_cases hj : j = n
    · subst hj
      have := sm_nn (f := f) j (fun i hi => h0 i (by omega))
      grind
    · have := sm_one n j (by omega) (fun i hi => h0 i (by omega))
      grind
theorem sm_swap (f : Nat → Nat → Rat) (m : Nat) : ∀ n, sm (fun i => sm (fun j => f i j) m) n = sm (fun j => sm (fun i => f i j) n) m
  | 0 => by
    rw [sm]
    exact (sm_0 m (fun i hi => by rw [sm])).symm
  | n + 1 => by
    rw [sm, sm_swap f m n]
    rw [← sm_add]
    exact sm_congr m (fun i hi => by rw [sm])
theorem le_sq {x y : Rat} (hy : 0 ≤ y) (h : x * x ≤ y * y) : x ≤ y := by
  refine Rat.not_lt.mp (fun z => ?_)
  have h1 : 0 < x - y := by grind
  have h2 : 0 < x + y := by grind
  have := Rat.mul_pos h1 h2
  grind
theorem ab_sq (x : Rat) : ab x * ab x = x * x := by rw [← ab_mul, ab_of (sq_nn x)]
theorem ab_le_sq {x y : Rat} (hy : 0 ≤ y) (h : x * x ≤ y * y) : ab x ≤ y := le_sq hy (by rw [ab_sq]; exact h)
theorem mul_le2 {a b c d : Rat} (h1 : a ≤ b) (h2 : c ≤ d) (ha : 0 ≤ a) (hd : 0 ≤ d) : a * c ≤ b * d := by
  have e1 := Rat.mul_le_mul_of_nonneg_left h2 ha
  have e2 := Rat.mul_le_mul_of_nonneg_right h1 hd
  grind
theorem sq_le2 {x y : Rat} (h : ab x ≤ y) : x * x ≤ y * y := by
  rw [← ab_sq]
  exact mul_le2 h h (ab_nn x) (by have := ab_nn x; grind)
theorem two_ab (a b : Rat) : 2 * (a * b) ≤ a * a + b * b := by
  have := sq_nn (a - b)
  grind
/-- Cauchy and Schwarz -/
theorem sm_cs {a b : Nat → Rat} : ∀ n, sm (fun i => a i * b i) n * sm (fun i => a i * b i) n ≤ sm (fun i => a i * a i) n * sm (fun i => b i * b i) n
  | 0 => by rw [sm, sm, sm]; exact Rat.le_refl
  | n + 1 => by
    have ih := sm_cs (a := a) (b := b) n
    have hA := sm_nn (f := fun i => a i * a i) n (fun i _ => sq_nn _)
    have hB := sm_nn (f := fun i => b i * b i) n (fun i _ => sq_nn _)
    rw [sm, sm, sm]
    generalize sm (fun i => a i * b i) n = S at *
    generalize sm (fun i => a i * a i) n = A at *
    generalize sm (fun i => b i * b i) n = B at *
    generalize a n = x at *
    generalize b n = y at *
    have hx := sq_nn x
    have hy := sq_nn y
    have k1 : 2 * (S * (x * y)) ≤ A * (y * y) + B * (x * x) := by
      have n1 := Rat.mul_nonneg hA hy
      have n2 := Rat.mul_nonneg hB hx
      refine le_sq (by grind) ?_
      have q1 := sq_nn (A * (y * y) - B * (x * x))
      have q2 := Rat.mul_le_mul_of_nonneg_right ih (Rat.mul_nonneg hx hy)
      have e1 : 2 * (S * (x * y)) * (2 * (S * (x * y))) = 4 * (S * S * (x * x * (y * y))) := by grind
      rw [e1]
      have e2 : (A * (y * y) + B * (x * x)) * (A * (y * y) + B * (x * x)) = (A * (y * y) - B * (x * x)) * (A * (y * y) - B * (x * x)) + 4 * (A * B * (x * x * (y * y))) := by grind
      rw [e2]
      grind
    grind
