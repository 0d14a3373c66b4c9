/-! numbers that are no NaN; the fresh objects' answers, simple ones -/
theorem n64_iff (v : UInt64) : vf_n64 v ↔ v.toNat % 2 ^ 63 ≤ 9218868437227405312 := by
  unfold vf_n64
  rw [UInt64.le_iff_toNat_le, UInt64.toNat_and]
  have e : (0x7fffffffffffffff : UInt64).toNat = 2 ^ 63 - 1 := rfl
  have e2 : (0x7ff0000000000000 : UInt64).toNat = 9218868437227405312 := rfl
  rw [e, e2, Nat.and_two_pow_sub_one_eq_mod]
theorem n32_iff (v : UInt32) : vf_n32 v ↔ v.toNat % 2 ^ 31 ≤ 2139095040 := by
  unfold vf_n32
  rw [UInt32.le_iff_toNat_le, UInt32.toNat_and]
  have e : (0x7fffffff : UInt32).toNat = 2 ^ 31 - 1 := rfl
  have e2 : (0x7f800000 : UInt32).toNat = 2139095040 := rfl
  rw [e, e2, Nat.and_two_pow_sub_one_eq_mod]
theorem n64_ne {v : UInt64} (h : vf_n64 v) : FP.Core.val64 v ≠ .nan := (FP.Core.ne_nan v).mpr ((n64_iff v).mp h)
theorem n64_of {v : UInt64} (h : FP.Core.val64 v ≠ .nan) : vf_n64 v := (n64_iff v).mpr ((FP.Core.ne_nan v).mp h)
theorem n32_of {v : UInt32} (h : FP.Core.val32 v ≠ .nan) : vf_n32 v := (n32_iff v).mpr ((FP.Core.ne_nan32 v).mp h)
theorem cvd_self {x : UInt64} (h : vf_n64 x) : cvd x x .l = 0 := by
  have e : FP.dcmp x x = some .eq := FP.Core.dcmp_self (n64_ne h)
  show Op.cmpValue (FP.dcmp x x) .l = 0
  rw [e]
  rfl
theorem cvd_lg {x y : UInt64} (hx : vf_n64 x) (hy : vf_n64 y) : cvd x y .l = cvd x y .g := by
  have e := FP.Core.dcmp_zval (n64_ne hx) (n64_ne hy)
  have e : FP.dcmp x y = _ := e
  show Op.cmpValue (FP.dcmp x y) .l = Op.cmpValue (FP.dcmp x y) .g
  rw [e]
  generalize compare (FP.Core.zval FP.Core.b64 (FP.Core.val64 x)) (FP.Core.zval FP.Core.b64 (FP.Core.val64 y)) = o
  cases o <;> rfl
/-- below 2^(K - 1023) in amount -/
def mgd (K : Nat) (x : UInt64) : Prop := x.toNat % 2 ^ 63 < K * 2 ^ 52
theorem mgd_n {K : Nat} {x : UInt64} (hK : K ≤ 2047) (h : mgd K x) : vf_n64 x := by
  rw [n64_iff]
  unfold mgd at h
  have : K * 2 ^ 52 ≤ 2047 * 2 ^ 52 := Nat.mul_le_mul_right _ hK
  omega
theorem mgd_up {K M : Nat} {x : UInt64} (h : mgd K x) (hKM : K ≤ M) : mgd M x := Nat.lt_of_lt_of_le h (Nat.mul_le_mul_right _ hKM)
theorem mgd_add {K : Nat} {x y : UInt64} (hK : K ≤ 2000) (hx : mgd K x) (hy : mgd K y) : mgd (K + 2) (FP.dadd x y) := FP.Core.dadd_mag hx hy (by omega)
theorem mgd_sub {K : Nat} {x y : UInt64} (hK : K ≤ 2000) (hx : mgd K x) (hy : mgd K y) : mgd (K + 2) (FP.dsub x y) := FP.Core.dsub_mag hx hy (by omega)
theorem mgd_mul {K M : Nat} {x y : UInt64} (hK : K ≤ 2000) (hM : M ≤ 2000) (hx : mgd K x) (hy : mgd M y) : mgd (K + M - 1025 + 3) (FP.dmul x y) := FP.Core.dmul_mag hx hy (by omega) (by omega)
theorem tq_m (x : Int32) : mgd 1056 (FP.dmul (FP.i2d x) 4593671619917905920) := by
  have h1 : mgd 1056 (FP.i2d x) := FP.Core.i2d_mag x
  have h2 : mgd 1021 4593671619917905920 := by unfold mgd; decide
  have h3 := mgd_mul (K := 1056) (M := 1021) (by omega) (by omega) h1 h2
  exact mgd_up h3 (by omega)
theorem tq_n (x : Int32) : vf_n64 (FP.dmul (FP.i2d x) 4593671619917905920) := mgd_n (by omega) (tq_m x)
theorem fq_n (x : Int32) : vf_n32 (FP.fmul (FP.i2f x) 1040187392) := by
  have h1 : (FP.i2f x).toNat % 2 ^ 31 < 160 * 2 ^ 23 := FP.Core.i2f_mag x
  have h2 : (1040187392 : UInt32).toNat % 2 ^ 31 < 125 * 2 ^ 23 := by decide
  have h3 := FP.Core.fmul_mag h1 h2 (by decide) (by decide)
  have h3 : (FP.fmul (FP.i2f x) 1040187392).toNat % 2 ^ 31 < _ := h3
  rw [n32_iff]
  refine Nat.le_of_lt (Nat.lt_of_lt_of_le h3 ?_)
  decide
/-- the reference's test of a place and the class's -/
theorem pl_off (x lo hi : UInt32) : plB x lo hi = !offB x lo hi := by
  unfold plB offB
  by_cases h1 : Op.cmpValue (FP.fcmp x lo) .l < 0
  · rw [if_pos h1, if_pos h1]; rfl
  · rw [if_neg h1, if_neg h1]
    by_cases h2 : 0 < Op.cmpValue (FP.fcmp x hi) .g
    · rw [if_pos h2, if_neg (Int32.not_le.mpr h2)]; rfl
    · rw [if_neg h2, if_pos (Int32.not_lt.mp h2)]; rfl
theorem ok_bad (x y a b : UInt32) : okAdd x y a b = !badA x y a b := by
  unfold okAdd badA
  rw [pl_off, pl_off, pl_off, pl_off]
  cases offB x 1031798784 1086193664 <;> cases offB y 1031798784 1086193664 <;> cases offB a 3238002688 1090519040 <;> cases offB b 3238002688 1090519040 <;> rfl
theorem lm_hv : ∀ k : Fin 31, lmC (nI k.val) = hv k.val := by decide +kernel
theorem lt_le {n : Nat} (hn : n < 100) (i : Int32) : nI n < i ↔ nI (n + 1) ≤ i := by
  rw [Int32.lt_iff_toInt_lt, Int32.le_iff_toInt_le, nI_toInt (by omega), nI_toInt (by omega)]
  omega
theorem fc_there (a i j : Int32) : thereB a i j = (if a = 0 then fcB 6 5 i j else if a = nI 1 then fcB 5 6 i j else false) := by
  unfold thereB fcB
  simp only [lt_le (n := 6) (by decide), lt_le (n := 5) (by decide)]
theorem sol0 (x y : Int32) (h : inB x y = true) : isSolB (fun _ => 0) x y = false := by
  unfold isSolB
  rw [if_pos h]
  simp
theorem cntB_0 {f : Nat → Bool} (h : ∀ c, f c = false) : ∀ n, cntB f n = 0
  | 0 => rfl
  | n + 1 => by
    unfold cntB
    rw [cntB_0 h n, h n]
    rfl
theorem cntF_0 {f : Nat → Int32} : ∀ n, (∀ c, c < n → f c = 0) → cntF f n = 0
  | 0, _ => rfl
  | n + 1, h => by
    unfold cntF
    rw [cntF_0 n (fun c hc => h c (by omega)), if_pos (h n (by omega))]
theorem isB0 : isB (fun _ => 0) := fun _ => ⟨false, rfl⟩
