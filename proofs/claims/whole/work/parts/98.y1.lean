/-! the product of two rows, rounded -/
theorem big_ge : (2 : Rat) ^ 250 ≤ big := by
  have h : (2 : Rat) ^ ((250 : Nat) : Int) ≤ (2 : Rat) ^ (1000 : Int) := p2_le (by decide)
  rw [Rat.zpow_natCast] at h
  exact h
theorem tt_le : 2 ^ 30 * tt ≤ ty := by
  have h : (2 : Rat) ^ (-1075 : Int) ≤ (2 : Rat) ^ (-((280 : Nat) : Int)) := p2_le (by decide)
  have e : (2 : Rat) ^ (-((280 : Nat) : Int)) = ((2 : Rat) ^ 280)⁻¹ := by rw [Rat.zpow_neg, Rat.zpow_natCast]
  rw [e] at h
  have h2 : tt ≤ ((2 : Rat) ^ 280)⁻¹ := h
  have h3 := Rat.mul_le_mul_of_nonneg_left h2 (show (0 : Rat) ≤ 2 ^ 30 by decide +kernel)
  refine Rat.le_trans h3 ?_
  unfold ty
  decide +kernel
theorem tt_0 : 0 < tt := p2_pos _
theorem num_add {x m s P y A Y n n2 t t2 : Rat} (hx : ab (x - P) ≤ n * uu * A + t) (hm : ab (m - y) ≤ n2 * uu * Y + t2) (hP : ab P ≤ A) (hy : ab y ≤ Y) (h0 : 0 ≤ n) (h02 : 0 ≤ n2) (hn : n ≤ 40) (hn2 : n2 ≤ n) (ht : 0 ≤ t) (ht2 : 0 ≤ t2) (hs : ab (s - (x + m)) ≤ uu * ab (x + m) + tt) : ab (s - (P + y)) ≤ (n + 2) * uu * (A + Y) + 2 * (t + t2 + tt) := by
  have hA : 0 ≤ A := Rat.le_trans (ab_nn P) hP
  have hY : 0 ≤ Y := Rat.le_trans (ab_nn y) hy
  have a1 := ab_add (x - P) (m - y)
  have a2 := ab_add (P + y) ((x - P) + (m - y))
  have a3 := ab_add P y
  have a4 := ab_add (s - (x + m)) ((x - P) + (m - y))
  rw [show s - (x + m) + (x - P + (m - y)) = s - (P + y) by grind] at a4
  rw [show P + y + (x - P + (m - y)) = x + m by grind] at a2
  have b1 := Rat.mul_le_mul_of_nonneg_right hn (Rat.mul_nonneg (show 0 ≤ uu by decide +kernel) hA)
  have b2 := Rat.mul_le_mul_of_nonneg_right hn2 (Rat.mul_nonneg (show 0 ≤ uu by decide +kernel) hY)
  have b3 := Rat.mul_nonneg h0 (Rat.mul_nonneg (show 0 ≤ uu by decide +kernel) hA)
  have b4 := Rat.mul_nonneg h0 (Rat.mul_nonneg (show 0 ≤ uu by decide +kernel) hY)
  have b5 := Rat.mul_nonneg h02 (Rat.mul_nonneg (show 0 ≤ uu by decide +kernel) hY)
  have b6 := Rat.mul_le_mul_of_nonneg_right hn (Rat.mul_nonneg (show 0 ≤ uu by decide +kernel) hY)
  have e1 : n * uu * A = n * (uu * A) := by grind
  have e2 : n2 * uu * Y = n2 * (uu * Y) := by grind
  have e3 : (n + 2) * uu * (A + Y) = n * (uu * A) + n * (uu * Y) + 2 * uu * A + 2 * uu * Y := by grind
  have e5 : 40 * (uu * A) = 40 * uu * A := by grind
  have e6 : 40 * (uu * Y) = 40 * uu * Y := by grind
  rw [e1] at hx
  rw [e2] at hm
  rw [e3]
  rw [e5] at b1
  rw [e6] at b6
  generalize n * (uu * A) = X1 at *
  generalize n2 * (uu * Y) = X2 at *
  generalize n * (uu * Y) = X3 at *
  generalize ab (s - (x + m)) = X4 at *
  generalize ab (s - (P + y)) = X5 at *
  generalize ab (x - P + (m - y)) = X6 at *
  generalize ab (x + m) = X7 at *
  generalize ab (x - P) = X8 at *
  generalize ab (m - y) = X9 at *
  generalize ab (P + y) = X10 at *
  generalize ab P = X11 at *
  generalize ab y = X12 at *
  have := tt_0
  clear e1 e2 e3 e5 e6
  unfold uu at *
  grind
theorem n64_fn {x : UInt64} (h : fn x) : vf_n64 x := n64_of h.ne_nan
/-- a sum of finite numbers that aren't large -/
theorem add_small {x y : UInt64} (hx : fn x) (hy : fn y) (h : ab (rv x) ≤ 2 ^ 240) (h2 : ab (rv y) ≤ 2 ^ 240) : rd (FP.dadd x y) (rv x + rv y) := by
  refine r_add hx hy (Rat.le_trans (ab_add _ _) (Rat.le_trans ?_ big_ge))
  grind
theorem sub_small {x y : UInt64} (hx : fn x) (hy : fn y) (h : ab (rv x) ≤ 2 ^ 240) (h2 : ab (rv y) ≤ 2 ^ 240) : rd (FP.dsub x y) (rv x - rv y) := by
  refine r_sub hx hy (Rat.le_trans (ab_sub _ _) (Rat.le_trans ?_ big_ge))
  grind
theorem mul_small {x y : UInt64} (hx : fn x) (hy : fn y) (h : ab (rv x) ≤ 2 ^ 120) (h2 : ab (rv y) ≤ 2 ^ 120) : rd (FP.dmul x y) (rv x * rv y) := by
  refine r_mul hx hy ?_
  rw [ab_mul]
  refine Rat.le_trans (mul_le2 h h2 (ab_nn _) (by decide +kernel)) (Rat.le_trans ?_ big_ge)
  decide +kernel

/-- one row of the product -/
theorem pr1_r {z o : Nat → UInt64} {j : Nat} (hj : j < 6) (hz : ∀ c, c < 36 → fn (z c) ∧ ab (rv (z c)) ≤ 2 ^ 110) (ho : ∀ c, c < 36 → fn (o c) ∧ ab (rv (o c)) ≤ 2 ^ 110) : ∀ i, i ≤ 6 → fn (pr1 z o j i) ∧ ab (rv (pr1 z o j i) - sm (fun k => rv (z (6 * j + k)) * rv (o (6 * j + k))) i) ≤ (1 + 2 * (i : Rat)) * uu * sm (fun k => ab (rv (z (6 * j + k)) * rv (o (6 * j + k)))) i + (4 ^ i : Nat) * (4 * tt) ∧ (i ≠ 0 → vf_n64 (FP.dmul (z (6 * j + (i - 1))) (o (6 * j + (i - 1)))))
  | 0, _ => by
    refine ⟨fn_c0, ?_, fun h => absurd rfl h⟩
    show ab (rv FP.dconst0 - 0) ≤ _
    rw [rv_c0, show (0 : Rat) - 0 = 0 by grind, ab_of Rat.le_refl]
    have := tt_0
    show (0 : Rat) ≤ (1 + 2 * ((0 : Nat) : Rat)) * uu * 0 + ((1 : Nat) : Rat) * (4 * tt)
    have e1 : ((1 : Nat) : Rat) = 1 := rfl
    rw [e1]
    grind
  | i + 1, hi => by
    obtain ⟨f1, e1, -⟩ := pr1_r hj hz ho i (by omega)
    have hzc := hz (6 * j + i) (by omega)
    have hoc := ho (6 * j + i) (by omega)
    have m1 := mul_small hzc.1 hoc.1 (Rat.le_trans hzc.2 (by decide +kernel)) (Rat.le_trans hoc.2 (by decide +kernel))
    have hb : ∀ k, k < 36 → ab (rv (z k) * rv (o k)) ≤ 2 ^ 220 := fun k hk => by
      rw [ab_mul]
      refine Rat.le_trans (mul_le2 (hz k hk).2 (ho k hk).2 (ab_nn _) (by decide +kernel)) ?_
      decide +kernel
    have hA : sm (fun k => ab (rv (z (6 * j + k)) * rv (o (6 * j + k)))) i ≤ 6 * 2 ^ 220 := by
      refine Rat.le_trans (sm_le (g := fun _ => (2 : Rat) ^ 220) i (fun k hk => hb _ (by omega))) ?_
      rw [sm_const]
      exact Rat.mul_le_mul_of_nonneg_right (nat_rat (show i ≤ 6 by omega)) (by decide +kernel)
    have hA0 : 0 ≤ sm (fun k => ab (rv (z (6 * j + k)) * rv (o (6 * j + k)))) i := sm_nn i (fun k _ => ab_nn _)
    have hP : ab (sm (fun k => rv (z (6 * j + k)) * rv (o (6 * j + k))) i) ≤ sm (fun k => ab (rv (z (6 * j + k)) * rv (o (6 * j + k)))) i := sm_ab i
    have hY := hb (6 * j + i) (by omega)
    have hi6 : (i : Rat) ≤ 6 := nat_rat (show i ≤ 6 by omega)
    have hi0 : (0 : Rat) ≤ i := Rat.natCast_nonneg
    have h4 : ((4 ^ i : Nat) : Rat) ≤ 4096 := nat_rat (Nat.le_trans (Nat.pow_le_pow_right (by decide) (show i ≤ 6 by omega)) (show 4 ^ 6 ≤ 4096 by decide))
    have h40 : (1 : Rat) ≤ ((4 ^ i : Nat) : Rat) := nat_rat (Nat.one_le_pow _ _ (by decide))
    have htt := tt_0
    have htl := tt_le
    have hty : ty ≤ 1 := by unfold ty; decide +kernel
    have sx : ab (rv (pr1 z o j i)) ≤ 2 ^ 240 := by
      have w := ab_add (rv (pr1 z o j i) - sm (fun k => rv (z (6 * j + k)) * rv (o (6 * j + k))) i) (sm (fun k => rv (z (6 * j + k)) * rv (o (6 * j + k))) i)
      rw [show rv (pr1 z o j i) - sm (fun k => rv (z (6 * j + k)) * rv (o (6 * j + k))) i + sm (fun k => rv (z (6 * j + k)) * rv (o (6 * j + k))) i = rv (pr1 z o j i) by grind] at w
      have w2 : (1 + 2 * (i : Rat)) * uu ≤ 1 := by
        have := Rat.mul_le_mul_of_nonneg_right (show 1 + 2 * (i : Rat) ≤ 13 by grind) (show 0 ≤ uu by decide +kernel)
        unfold uu at *
        grind
      have w3 := Rat.mul_le_mul_of_nonneg_right w2 hA0
      have w4 := Rat.mul_le_mul_of_nonneg_right h4 (show 0 ≤ 4 * tt by grind)
      generalize sm (fun k => ab (rv (z (6 * j + k)) * rv (o (6 * j + k)))) i = A at *
      clear hz ho hb
      grind
    have sy : ab (rv (FP.dmul (z (6 * j + i)) (o (6 * j + i)))) ≤ 2 ^ 240 := by
      have w := ab_add (rv (FP.dmul (z (6 * j + i)) (o (6 * j + i))) - rv (z (6 * j + i)) * rv (o (6 * j + i))) (rv (z (6 * j + i)) * rv (o (6 * j + i)))
      rw [show rv (FP.dmul (z (6 * j + i)) (o (6 * j + i))) - rv (z (6 * j + i)) * rv (o (6 * j + i)) + rv (z (6 * j + i)) * rv (o (6 * j + i)) = rv (FP.dmul (z (6 * j + i)) (o (6 * j + i))) by grind] at w
      have w2 := m1.2
      generalize ab (rv (z (6 * j + i)) * rv (o (6 * j + i))) = Y at *
      clear hz ho hb
      unfold uu at *
      grind
    have a1 := add_small f1 m1.1 sx sy
    have hmul : ab (rv (FP.dmul (z (6 * j + i)) (o (6 * j + i))) - rv (z (6 * j + i)) * rv (o (6 * j + i))) ≤ 1 * uu * ab (rv (z (6 * j + i)) * rv (o (6 * j + i))) + tt := by
      rw [Rat.one_mul]
      exact m1.2
    have nm := num_add e1 hmul hP Rat.le_refl (by grind) (by decide) (by grind) (by grind) (Rat.mul_nonneg (Rat.le_trans (by decide) h40) (by grind)) (Rat.le_of_lt htt) a1.2
    refine ⟨a1.1, ?_, fun _ => n64_fn m1.1⟩
    show ab (rv (FP.dadd (pr1 z o j i) (FP.dmul (z (6 * j + i)) (o (6 * j + i)))) - (sm (fun k => rv (z (6 * j + k)) * rv (o (6 * j + k))) i + rv (z (6 * j + i)) * rv (o (6 * j + i)))) ≤ (1 + 2 * ((i + 1 : Nat) : Rat)) * uu * (sm (fun k => ab (rv (z (6 * j + k)) * rv (o (6 * j + k)))) i + ab (rv (z (6 * j + i)) * rv (o (6 * j + i)))) + ((4 ^ (i + 1) : Nat) : Rat) * (4 * tt)
    refine Rat.le_trans nm ?_
    have ec : ((i + 1 : Nat) : Rat) = (i : Rat) + 1 := by rw [Rat.natCast_add]; rfl
    have e4 : ((4 ^ (i + 1) : Nat) : Rat) = ((4 ^ i : Nat) : Rat) * 4 := by rw [Nat.pow_succ, Rat.natCast_mul]; rfl
    rw [ec, e4, show (1 + 2 * ((i : Rat) + 1)) = 1 + 2 * (i : Rat) + 2 by grind]
    have k1 := Rat.mul_le_mul_of_nonneg_right h40 (Rat.le_of_lt htt)
    generalize (1 + 2 * (i : Rat) + 2) * uu * (sm (fun k => ab (rv (z (6 * j + k)) * rv (o (6 * j + k)))) i + ab (rv (z (6 * j + i)) * rv (o (6 * j + i)))) = X at *
    generalize ((4 ^ i : Nat) : Rat) = q at *
    clear hz ho hb nm
    grind
