/-! the whole product, rounded -/
theorem prd_r {z o : Nat → UInt64} (hz : ∀ c, c < 36 → fn (z c) ∧ ab (rv (z c)) ≤ 2 ^ 110) (ho : ∀ c, c < 36 → fn (o c) ∧ ab (rv (o c)) ≤ 2 ^ 110) : ∀ j, j ≤ 6 → fn (prd z o j) ∧ ab (rv (prd z o j) - sm (fun J => sm (fun k => rv (z (6 * J + k)) * rv (o (6 * J + k))) 6) j) ≤ (13 + 2 * (j : Rat)) * uu * sm (fun J => sm (fun k => ab (rv (z (6 * J + k)) * rv (o (6 * J + k)))) 6) j + (4 ^ j : Nat) * (32768 * tt)
  | 0, _ => by
    refine ⟨fn_c0, ?_⟩
    show ab (rv FP.dconst0 - 0) ≤ _
    rw [rv_c0, show (0 : Rat) - 0 = 0 by grind, ab_of Rat.le_refl]
    have := tt_0
    show (0 : Rat) ≤ (13 + 2 * ((0 : Nat) : Rat)) * uu * 0 + ((1 : Nat) : Rat) * (32768 * tt)
    have e1 : ((1 : Nat) : Rat) = 1 := rfl
    rw [e1]
    grind
  | j + 1, hj => by
    obtain ⟨f1, e1⟩ := prd_r hz ho j (by omega)
    obtain ⟨f2, e2, -⟩ := pr1_r (j := j) (by omega) hz ho 6 (by omega)
    have e6 : ((6 : Nat) : Rat) = 6 := rfl
    have e46 : ((4 ^ 6 : Nat) : Rat) = 4096 := by decide +kernel
    rw [e6, e46, show (1 : Rat) + 2 * 6 = 13 by grind] at e2
    have hb : ∀ k, k < 36 → ab (rv (z k) * rv (o k)) ≤ 2 ^ 220 := fun k hk => by
      rw [ab_mul]
      refine Rat.le_trans (mul_le2 (hz k hk).2 (ho k hk).2 (ab_nn _) (by decide +kernel)) ?_
      decide +kernel
    have hR : ∀ J, J < 6 → sm (fun k => ab (rv (z (6 * J + k)) * rv (o (6 * J + k)))) 6 ≤ 6 * 2 ^ 220 := fun J hJ => by
      refine Rat.le_trans (sm_le (g := fun _ => (2 : Rat) ^ 220) 6 (fun k hk => hb _ (by omega))) ?_
      rw [sm_const]
      exact Rat.le_refl
    have hR0 : ∀ J, 0 ≤ sm (fun k => ab (rv (z (6 * J + k)) * rv (o (6 * J + k)))) 6 := fun J => sm_nn 6 (fun k _ => ab_nn _)
    have hA : sm (fun J => sm (fun k => ab (rv (z (6 * J + k)) * rv (o (6 * J + k)))) 6) j ≤ 36 * 2 ^ 220 := by
      refine Rat.le_trans (sm_le (g := fun _ => 6 * (2 : Rat) ^ 220) j (fun J hJ => hR J (by omega))) ?_
      rw [sm_const]
      have := Rat.mul_le_mul_of_nonneg_right (nat_rat (show j ≤ 6 by omega)) (show (0 : Rat) ≤ 6 * 2 ^ 220 by decide +kernel)
      refine Rat.le_trans this ?_
      decide +kernel
    have hA0 := sm_nn (f := fun J => sm (fun k => ab (rv (z (6 * J + k)) * rv (o (6 * J + k)))) 6) j (fun J _ => hR0 J)
    have hP : ab (sm (fun J => sm (fun k => rv (z (6 * J + k)) * rv (o (6 * J + k))) 6) j) ≤ sm (fun J => sm (fun k => ab (rv (z (6 * J + k)) * rv (o (6 * J + k)))) 6) j := Rat.le_trans (sm_ab j) (sm_le j (fun J _ => sm_ab 6))
    have hY : ab (sm (fun k => rv (z (6 * j + k)) * rv (o (6 * j + k))) 6) ≤ sm (fun k => ab (rv (z (6 * j + k)) * rv (o (6 * j + k)))) 6 := sm_ab 6
    have hRj := hR j (by omega)
    have hRj0 := hR0 j
    have hj6 : (j : Rat) ≤ 6 := nat_rat (show j ≤ 6 by omega)
    have hj0 : (0 : Rat) ≤ j := Rat.natCast_nonneg
    have h4 : ((4 ^ j : Nat) : Rat) ≤ 4096 := nat_rat (Nat.le_trans (Nat.pow_le_pow_right (by decide) (show j ≤ 6 by omega)) (show 4 ^ 6 ≤ 4096 by decide))
    have h40 : (1 : Rat) ≤ ((4 ^ j : Nat) : Rat) := nat_rat (Nat.one_le_pow _ _ (by decide))
    have htt := tt_0
    have htl := tt_le
    have hty : ty ≤ 1 := by unfold ty; decide +kernel
    show fn (FP.dadd (prd z o j) (pr1 z o j 6)) ∧ ab (rv (FP.dadd (prd z o j) (pr1 z o j 6)) - (sm (fun J => sm (fun k => rv (z (6 * J + k)) * rv (o (6 * J + k))) 6) j + sm (fun k => rv (z (6 * j + k)) * rv (o (6 * j + k))) 6)) ≤ (13 + 2 * ((j + 1 : Nat) : Rat)) * uu * (sm (fun J => sm (fun k => ab (rv (z (6 * J + k)) * rv (o (6 * J + k)))) 6) j + sm (fun k => ab (rv (z (6 * j + k)) * rv (o (6 * j + k)))) 6) + ((4 ^ (j + 1) : Nat) : Rat) * (32768 * tt)
    generalize sm (fun J => sm (fun k => ab (rv (z (6 * J + k)) * rv (o (6 * J + k)))) 6) j = A at *
    generalize sm (fun J => sm (fun k => rv (z (6 * J + k)) * rv (o (6 * J + k))) 6) j = P at *
    generalize sm (fun k => ab (rv (z (6 * j + k)) * rv (o (6 * j + k)))) 6 = Y at *
    generalize sm (fun k => rv (z (6 * j + k)) * rv (o (6 * j + k))) 6 = y at *
    have w2 : (13 + 2 * (j : Rat)) * uu ≤ 1 := by
      have := Rat.mul_le_mul_of_nonneg_right (show 13 + 2 * (j : Rat) ≤ 25 by grind) (show 0 ≤ uu by decide +kernel)
      unfold uu at *
      grind
    have sx : ab (rv (prd z o j)) ≤ 2 ^ 240 := by
      have w := ab_add (rv (prd z o j) - P) P
      rw [show rv (prd z o j) - P + P = rv (prd z o j) by grind] at w
      have w3 := Rat.mul_le_mul_of_nonneg_right w2 hA0
      have w4 := Rat.mul_le_mul_of_nonneg_right h4 (show 0 ≤ 32768 * tt by grind)
      clear hz ho hb hR hR0
      grind
    have sy : ab (rv (pr1 z o j 6)) ≤ 2 ^ 240 := by
      have w := ab_add (rv (pr1 z o j 6) - y) y
      rw [show rv (pr1 z o j 6) - y + y = rv (pr1 z o j 6) by grind] at w
      clear hz ho hb hR hR0 e1
      unfold uu at *
      grind
    have a1 := add_small f1 f2 sx sy
    have nm := num_add e1 e2 hP hY (by grind) (by decide) (by grind) (by grind) (Rat.mul_nonneg (Rat.le_trans (by decide) h40) (by grind)) (by grind) a1.2
    refine ⟨a1.1, Rat.le_trans nm ?_⟩
    have ec : ((j + 1 : Nat) : Rat) = (j : Rat) + 1 := by rw [Rat.natCast_add]; rfl
    have e4 : ((4 ^ (j + 1) : Nat) : Rat) = ((4 ^ j : Nat) : Rat) * 4 := by rw [Nat.pow_succ, Rat.natCast_mul]; rfl
    rw [ec, e4, show (13 + 2 * ((j : Rat) + 1)) = 13 + 2 * (j : Rat) + 2 by grind]
    have k1 := Rat.mul_le_mul_of_nonneg_right h40 (Rat.le_of_lt htt)
    generalize (13 + 2 * (j : Rat) + 2) * uu * (A + Y) = X at *
    generalize ((4 ^ j : Nat) : Rat) = q at *
    clear hz ho hb nm hR hR0
    grind
