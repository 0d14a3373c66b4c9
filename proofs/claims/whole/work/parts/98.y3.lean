/-! the product of two rows: what is owed and what it is -/
theorem sm_app (f : Nat → Rat) (n : Nat) : ∀ m, sm f (n + m) = sm f n + sm (fun k => f (n + k)) m
  | 0 => by rw [sm, Nat.add_zero, Rat.add_zero]
  | m + 1 => by
    rw [← Nat.add_assoc, sm, sm, sm_app f n m]
    grind
theorem sm_66 (f : Nat → Rat) : ∀ J, sm f (6 * J) = sm (fun J => sm (fun k => f (6 * J + k)) 6) J
  | 0 => rfl
  | J + 1 => by
    rw [Nat.mul_succ, sm_app, sm_66 f J]
    rfl
theorem pr_ok {z o : Nat → UInt64} (hz : ∀ c, c < 36 → fn (z c) ∧ ab (rv (z c)) ≤ 2 ^ 110) (ho : ∀ c, c < 36 → fn (o c) ∧ ab (rv (o c)) ≤ 2 ^ 110) : prOk z o := by
  intro j hj
  refine ⟨fun i hi => ?_, n64_fn (prd_r hz ho (j + 1) (by omega)).1⟩
  obtain ⟨a, -, b⟩ := pr1_r hj hz ho (i + 1) (by omega)
  exact ⟨b (by omega), n64_fn a⟩
theorem pr_val {z o : Nat → UInt64} (hz : ∀ c, c < 36 → fn (z c) ∧ ab (rv (z c)) ≤ 2 ^ 110) (ho : ∀ c, c < 36 → fn (o c) ∧ ab (rv (o c)) ≤ 2 ^ 110) : fn (prd z o 6) ∧ ab (rv (prd z o 6) - dt (fun c => rv (z c)) (fun c => rv (o c))) ≤ 40 * uu * sm (fun j => ab (rv (z j)) * ab (rv (o j))) 36 + ty := by
  obtain ⟨a, b⟩ := prd_r hz ho 6 (by omega)
  refine ⟨a, ?_⟩
  have e1 : dt (fun c => rv (z c)) (fun c => rv (o c)) = sm (fun J => sm (fun k => rv (z (6 * J + k)) * rv (o (6 * J + k))) 6) 6 := sm_66 (fun c => rv (z c) * rv (o c)) 6
  have e2 : sm (fun j => ab (rv (z j)) * ab (rv (o j))) 36 = sm (fun J => sm (fun k => ab (rv (z (6 * J + k)) * rv (o (6 * J + k)))) 6) 6 := by
    rw [sm_congr (g := fun j => ab (rv (z j) * rv (o j))) 36 (fun j _ => by rw [ab_mul])]
    exact sm_66 (fun c => ab (rv (z c) * rv (o c))) 6
  rw [e1, e2]
  have h0 : 0 ≤ sm (fun J => sm (fun k => ab (rv (z (6 * J + k)) * rv (o (6 * J + k)))) 6) 6 := sm_nn 6 (fun J _ => sm_nn 6 (fun k _ => ab_nn _))
  generalize sm (fun J => sm (fun k => ab (rv (z (6 * J + k)) * rv (o (6 * J + k)))) 6) 6 = A at *
  have e6 : ((6 : Nat) : Rat) = 6 := rfl
  have e46 : ((4 ^ 6 : Nat) : Rat) = 4096 := by decide +kernel
  rw [e6, e46] at b
  have t1 := tt_le
  have t2 := tt_0
  clear hz ho e1 e2
  unfold uu at *
  grind
