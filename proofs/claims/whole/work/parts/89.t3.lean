/-! magnitudes of floats, and of what is made of them -/
def mgf (K : Nat) (x : UInt32) : Prop := x.toNat % 2 ^ 31 < K * 2 ^ 23
theorem mgf_n {K : Nat} {x : UInt32} (hK : K ≤ 255) (h : mgf K x) : vf_n32 x := by
  rw [n32_iff]
  unfold mgf at h
  omega
theorem mgf_up {K M : Nat} {x : UInt32} (h : mgf K x) (hKM : K ≤ M) : mgf M x := Nat.lt_of_lt_of_le h (Nat.mul_le_mul_right _ hKM)
theorem mgf_add {K : Nat} {x y : UInt32} (hK : K ≤ 255) (hx : mgf K x) (hy : mgf K y) : mgf (K + 2) (FP.fadd x y) := FP.Core.fadd_mag hx hy hK
theorem mgf_sub {K : Nat} {x y : UInt32} (hK : K ≤ 255) (hx : mgf K x) (hy : mgf K y) : mgf (K + 2) (FP.fsub x y) := FP.Core.fsub_mag hx hy hK
theorem mgf_mul {K M : Nat} {x y : UInt32} (hK : K ≤ 255) (hM : M ≤ 255) (hx : mgf K x) (hy : mgf M y) : mgf (K + M - 129 + 3) (FP.fmul x y) := FP.Core.fmul_mag hx hy hK hM
theorem f2d_m {a : UInt32} {K : Nat} (hK : K ≤ 255) (h : mgf K a) : mgd (K + 897) (FP.f2d a) := by
  have h : a.toNat % 2 ^ 31 < K * 2 ^ 23 := h
  have fa := FP.Core.fin_of_lt32 h hK
  obtain ⟨s, c, q, hv⟩ := fa
  have za := FP.Core.zmag_toNat32 (a := a) (by rw [hv]; exact FP.Core.Datum.noConfusion)
  have fit := FP.Core.val32_fits a
  rw [hv] at za fit
  obtain ⟨-, fq, -, -⟩ := fit
  rw [FP.Core.qmin_b32] at fq
  obtain ⟨k1, l1⟩ := FP.Core.units_lt_start (f := FP.Core.b32) (m := a.toNat % 2 ^ 31) (K := K) (by rw [FP.Core.tails_b32]; exact h)
  rw [← za] at l1
  have hn := FP.Core.val64_f2d a
  rw [hv] at hn
  have hm := FP.Core.mag_le (m := (K + 896) * 2 ^ 52) (A := c) (B := 1) (e := q) (s := s) FP.Core.good_b64 (n := (FP.Core.f2d a).toNat) hn (by decide) (e0 := FP.Core.b64.qmin) (by omega) (by rw [FP.Core.qmin_b64]; omega) (by
    rw [← FP.Core.tails_b64, FP.Core.unitsOf_start (by omega), Int.sub_self, Int.toNat_zero, Nat.pow_zero, Nat.mul_one, Nat.mul_one]
    have e1 : FP.Core.inUnits c q FP.Core.b64.qmin = FP.Core.inUnits c q FP.Core.b32.qmin * 2 ^ 925 := by
      unfold FP.Core.inUnits
      rw [FP.Core.qmin_b64, FP.Core.qmin_b32, Nat.mul_assoc, ← Nat.pow_add]
      congr 2
      omega
    have l2 : FP.Core.inUnits c q FP.Core.b32.qmin < FP.Core.b32.tails * 2 ^ (K - 1) := l1
    rw [e1, FP.Core.tails_b64]
    rw [FP.Core.tails_b32] at l2
    refine Nat.le_trans (Nat.mul_le_mul_right _ (Nat.le_of_lt l2)) ?_
    rw [← Nat.pow_add, ← Nat.pow_add, ← Nat.pow_add]
    exact Nat.pow_le_pow_right (by decide) (by omega))
  rw [FP.Core.mag_toNat64] at hm
  have e9 : FP.f2d a = FP.Core.f2d a := FP.f2d_core ((FP.Core.notNaN_iff32 a).mpr (by rw [hv]; exact FP.Core.Datum.noConfusion))
  unfold mgd
  rw [e9]
  omega
/-- a float within two others, by their bits -/
theorem off_key {v lo hi : UInt32} (h : offB v lo hi = false) (hl : vf_n32 lo) (hh : vf_n32 hi) : vf_n32 v ∧ FP.Core.fkey lo ≤ FP.Core.fkey v ∧ FP.Core.fkey v ≤ FP.Core.fkey hi := by
  have hv : FP.Core.val32 v ≠ .nan := fun hn => by
    unfold offB at h
    rw [show FP.fcmp v lo = none from (FP.Core.fcmp_none v lo).mpr (Or.inl hn), if_pos (by decide)] at h
    cases h
  have k1 : FP.fcmp v lo = some (compare (FP.Core.fkey v) (FP.Core.fkey lo)) := FP.Core.fcmp_key hv (n32_ne hl)
  have k2 : FP.fcmp v hi = some (compare (FP.Core.fkey v) (FP.Core.fkey hi)) := FP.Core.fcmp_key hv (n32_ne hh)
  unfold offB at h
  rw [k1, k2] at h
  refine ⟨n32_of hv, ?_, ?_⟩
  · refine Int.not_lt.mp (fun z => ?_)
    rw [(FP.Core.compare_lt_iff _ _).mpr z, if_pos (by decide)] at h
    cases h
  · refine Int.not_lt.mp (fun z => ?_)
    rw [(FP.Core.compare_gt_iff _ _).mpr z] at h
    split at h
    · cases h
    · rw [if_neg (by decide)] at h
      cases h
theorem key_m {v : UInt32} {K : Nat} (h1 : -((K * 2 ^ 23 : Nat) : Int) < FP.Core.fkey v) (h2 : FP.Core.fkey v < ((K * 2 ^ 23 : Nat) : Int)) : mgf K v := by
  unfold FP.Core.fkey at h1 h2
  unfold mgf
  have := v.toNat_lt
  by_cases h : 2 ^ 31 ≤ v.toNat
  · rw [if_pos h] at h1 h2
    omega
  · rw [if_neg h] at h1 h2
    omega
theorem off_sp {v : UInt32} (h : offB v 3238002688 1090519040 = false) : mgf 131 v := by
  obtain ⟨-, h1, h2⟩ := off_key h (by unfold vf_n32; decide) (by unfold vf_n32; decide)
  have e1 : FP.Core.fkey 3238002688 = -1090519040 := by decide +kernel
  have e2 : FP.Core.fkey 1090519040 = 1090519040 := by decide +kernel
  rw [e1] at h1
  rw [e2] at h2
  exact key_m (by omega) (by omega)
theorem off_pl {v : UInt32} (h : offB v 1031798784 1086193664 = false) : mgf 130 v := by
  obtain ⟨-, h1, h2⟩ := off_key h (by unfold vf_n32; decide) (by unfold vf_n32; decide)
  have e1 : FP.Core.fkey 1031798784 = 1031798784 := by decide +kernel
  have e2 : FP.Core.fkey 1086193664 = 1086193664 := by decide +kernel
  rw [e1] at h1
  rw [e2] at h2
  exact key_m (by omega) (by omega)
theorem bad_m {x y a b : UInt32} (h : badA x y a b = false) : mgf 130 x ∧ mgf 130 y ∧ mgf 131 a ∧ mgf 131 b := by
  unfold badA at h
  rw [Bool.or_eq_false_iff, Bool.or_eq_false_iff, Bool.or_eq_false_iff] at h
  exact ⟨off_pl h.1, off_pl h.2.1, off_sp h.2.2.1, off_sp h.2.2.2⟩
