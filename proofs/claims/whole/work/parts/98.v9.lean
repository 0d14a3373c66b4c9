/-! speeds stay within their bounds -/
theorem half_m {a : UInt32} {m : Nat} (ha : a.toNat % 2 ^ 31 ≤ m) (hm : m < 255 * 2 ^ 23) : (FP.fmul a 1056964608).toNat % 2 ^ 31 ≤ m := by
  have e0 : FP.fmul a 1056964608 = FP.Core.fmul a 1056964608 := rfl
  rw [e0]
  have h1 : (FP.Core.fmul a 1056964608).toNat = FP.Core.mul FP.Core.b32 a.toNat (1056964608 : UInt32).toNat := FP.Core.toNat_of32 (FP.Core.round_fits FP.Core.good_b32 _)
  have hx : FP.Core.mag FP.Core.b32 a.toNat < FP.Core.infBits FP.Core.b32 := by rw [FP.Core.mag_toNat32, FP.Core.infBits_b32]; omega
  have hy : FP.Core.mag FP.Core.b32 (1056964608 : UInt32).toNat < FP.Core.infBits FP.Core.b32 := by decide +kernel
  obtain ⟨s, c, q, x1, x2, x3⟩ := FP.Core.fin_of_mag FP.Core.good_b32 hx
  obtain ⟨t, d, r, y1, y2, y3⟩ := FP.Core.fin_of_mag FP.Core.good_b32 hy
  obtain ⟨p1, p2, p3⟩ := FP.Core.product_units x2 y2
  have hd : FP.Core.decode FP.Core.b32 (FP.Core.mul FP.Core.b32 a.toNat (1056964608 : UInt32).toNat) = FP.Core.roundRatio FP.Core.b32 (s != t) (c * d) 1 (q + r) := by
    unfold FP.Core.mul
    rw [FP.Core.decode_enc FP.Core.good_b32 (FP.Core.round_fits FP.Core.good_b32 _), x1, y1, p1]
    rfl
  have key := FP.Core.mag_le (m := m) FP.Core.good_b32 hd (by decide) (e0 := 2 * FP.Core.b32.qmin) (by decide) p2 (by
    have u2 : FP.Core.unitsOf FP.Core.b32 (FP.Core.mag FP.Core.b32 (1056964608 : UInt32).toNat) = 2 ^ 148 := by decide +kernel
    rw [p3, x3, y3, u2, Nat.mul_one, FP.Core.mag_toNat32, FP.Core.qmin_b32]
    exact Nat.mul_le_mul (FP.Core.unitsOf_le_iff.mpr ha) (by decide))
  rw [← h1, FP.Core.mag_toNat32] at key
  exact key
theorem fneg_m {a : UInt32} (h : vf_n32 a) : (FP.fneg a).toNat % 2 ^ 31 = a.toNat % 2 ^ 31 := by
  have hv := n32_ne h
  have e : FP.Core.val32 (FP.fneg a) = FP.Core.negate (FP.Core.val32 a) := FP.val32_fneg a
  have hn : FP.Core.val32 (FP.fneg a) ≠ .nan := by rw [e]; exact FP.Core.negate_ne_nan hv
  have z1 := FP.Core.zmag_toNat32 hv
  have z2 := FP.Core.zmag_toNat32 hn
  rw [e] at z2
  have z3 : FP.Core.zmag FP.Core.b32 (FP.Core.negate (FP.Core.val32 a)) = FP.Core.zmag FP.Core.b32 (FP.Core.val32 a) := by cases FP.Core.val32 a <;> rfl
  rw [z3, z1] at z2
  have a1 := FP.Core.unitsOf_le_iff.mp (Nat.le_of_eq z2)
  have a2 := FP.Core.unitsOf_le_iff.mp (Nat.le_of_eq z2.symm)
  omega
theorem key_b {v : UInt32} {M : Nat} (h1 : -(M : Int) ≤ FP.Core.fkey v) (h2 : FP.Core.fkey v ≤ (M : Int)) : v.toNat % 2 ^ 31 ≤ M := by
  unfold FP.Core.fkey at h1 h2
  have := v.toNat_lt
  by_cases h : 2 ^ 31 ≤ v.toNat
  · rw [if_pos h] at h1 h2
    omega
  · rw [if_neg h] at h1 h2
    omega
theorem b_key {v : UInt32} {M : Nat} (h : v.toNat % 2 ^ 31 ≤ M) : -(M : Int) ≤ FP.Core.fkey v ∧ FP.Core.fkey v ≤ (M : Int) := by
  unfold FP.Core.fkey
  have := v.toNat_lt
  by_cases h9 : 2 ^ 31 ≤ v.toNat
  · rw [if_pos h9]
    omega
  · rw [if_neg h9]
    omega
theorem off_of {v : UInt32} (h : v.toNat % 2 ^ 31 ≤ 1090519040) : offB v 3238002688 1090519040 = false := by
  have hn : vf_n32 v := by rw [n32_iff]; omega
  have hv := n32_ne hn
  obtain ⟨b1, b2⟩ := b_key h
  have e1 : FP.Core.fkey 3238002688 = -1090519040 := by decide +kernel
  have e2 : FP.Core.fkey 1090519040 = 1090519040 := by decide +kernel
  have k1 : FP.fcmp v 3238002688 = some (compare (FP.Core.fkey v) (FP.Core.fkey 3238002688)) := FP.Core.fcmp_key hv (n32_ne (by unfold vf_n32; decide))
  have k2 : FP.fcmp v 1090519040 = some (compare (FP.Core.fkey v) (FP.Core.fkey 1090519040)) := FP.Core.fcmp_key hv (n32_ne (by unfold vf_n32; decide))
  unfold offB
  rw [k1, k2, e1, e2]
  generalize FP.Core.fkey v = K at b1 b2
  have c1 : compare K (-1090519040) ≠ .lt := fun z => by have := (FP.Core.compare_lt_iff _ _).mp z; omega
  have c2 : compare K 1090519040 ≠ .gt := fun z => by have := (FP.Core.compare_gt_iff _ _).mp z; omega
  revert c1 c2
  generalize compare K (-1090519040) = o1
  generalize compare K 1090519040 = o2
  cases o1 <;> cases o2 <;> decide
theorem off_b {v : UInt32} (h : offB v 3238002688 1090519040 = false) : vf_n32 v ∧ v.toNat % 2 ^ 31 ≤ 1090519040 := by
  obtain ⟨h0, h1, h2⟩ := off_key h (by unfold vf_n32; decide) (by unfold vf_n32; decide)
  have e1 : FP.Core.fkey 3238002688 = -1090519040 := by decide +kernel
  have e2 : FP.Core.fkey 1090519040 = 1090519040 := by decide +kernel
  rw [e1] at h1
  rw [e2] at h2
  exact ⟨h0, key_b (M := 1090519040) h1 h2⟩
theorem flp_off {X a : UInt32} (h : offB a 3238002688 1090519040 = false) : offB (flp X a) 3238002688 1090519040 = false := by
  unfold flp
  split
  · obtain ⟨h0, h1⟩ := off_b h
    exact off_of (half_m (by rw [fneg_m h0]; exact h1) (by decide))
  · exact h
theorem bo_off {w : UInt32} (h : vf_n32 w) : offB (boF w) 3238002688 1090519040 = false := by
  have hv := n32_ne h
  unfold boF
  by_cases h1 : 0 ≤ Op.cmpValue (FP.fcmp w 3238002688) .g
  · rw [if_pos h1]
    by_cases h2 : Op.cmpValue (FP.fcmp w 1090519040) .l ≤ 0
    · rw [if_pos h2]
      unfold offB
      cases ho : FP.fcmp w 3238002688 with
      | none =>
        rcases (FP.Core.fcmp_none w 3238002688).mp ho with z | z
        · exact absurd z hv
        · exact absurd z (by decide +kernel)
      | some o =>
        rw [ho] at h1
        cases hq : FP.fcmp w 1090519040 with
        | none =>
          rcases (FP.Core.fcmp_none w 1090519040).mp hq with z | z
          · exact absurd z hv
          · exact absurd z (by decide +kernel)
        | some q =>
          rw [hq] at h2
          revert h1 h2
          cases o <;> cases q <;> decide
    · rw [if_neg h2]; decide +kernel
  · rw [if_neg h1]; decide +kernel
theorem mix_off {W : mS} {u : Bool} {k : Nat} (ok : mixOk W u k) : offB (mixF W u k) 3238002688 1090519040 = false := bo_off ok.2.2.2.2.2.2.2.2.2.2.2
