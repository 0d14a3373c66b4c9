/-! a round: magnitudes, and what the argument over numbers wants of it -/
theorem num_s {x B c k : Rat} (hs : x * x * B ≤ c * c * ((600 * (k + 1)) * (600 * (k + 1)))) (hc0 : 0 < c) (hc : c ≤ 2 ^ 40) (hk0 : 0 ≤ k) (hk : k ≤ 40) (hB : 1 / 2 ^ 68 ≤ B) : ab x ≤ 2 ^ 90 := by
  have a1 := mul_le2 hc hc (Rat.le_of_lt hc0) (by decide +kernel)
  have a2 : (600 * (k + 1)) * (600 * (k + 1)) ≤ 24600 * 24600 := mul_le2 (by grind) (by grind) (by grind) (by decide +kernel)
  have a3 := mul_le2 a1 a2 (Rat.mul_nonneg (Rat.le_of_lt hc0) (Rat.le_of_lt hc0)) (by decide +kernel)
  have a4 := Rat.mul_le_mul_of_nonneg_left hB (sq_nn x)
  have a5 : x * x * (1 / 2 ^ 68) ≤ 2 ^ 40 * 2 ^ 40 * (24600 * 24600) := Rat.le_trans a4 (Rat.le_trans hs a3)
  refine ab_le_sq (by decide +kernel) ?_
  clear a1 a2 a3 a4 hs
  generalize x * x = X at *
  grind
theorem num_r {x B H : Rat} (hr : x * x ≤ 8 * B + 2 * (H * H)) (hB : B ≤ 2 ^ 15) (hH : H * H ≤ 1) : ab x ≤ 2 ^ 10 := by
  refine ab_le_sq (by decide +kernel) ?_
  generalize x * x = X at *
  generalize H * H = Y at *
  grind
theorem num_H {H : Rat} (h : H * H ≤ 1 / 2 ^ 66) (h0 : 0 ≤ H) : H ≤ 1 / 2 ^ 33 := by
  refine le_sq (by decide +kernel) (Rat.le_trans h ?_)
  decide +kernel
theorem num_BW {B W : Rat} (h : B * (W * W) ≤ 65530) (hB0 : 0 ≤ B) (hB : B ≤ 2 ^ 14) : B * W ≤ 2 ^ 15 := by
  refine le_sq (by decide +kernel) ?_
  have a := mul_le2 hB h hB0 (by decide +kernel)
  rw [show B * W * (B * W) = B * (B * (W * W)) by grind]
  refine Rat.le_trans a ?_
  decide +kernel
theorem num_H1 {H B W al c Q : Rat} (hH : H ≤ 1 / 2 ^ 33) (hH0 : 0 ≤ H) (hB : B ≤ 2 ^ 14) (hB0 : 0 ≤ B) (hW0 : 0 ≤ W) (hBW : B * W ≤ 2 ^ 15) (h1 : al * c ≤ 401 / 100 * B) (h2 : al * Q ≤ 402 / 100 * B) (h3 : 0 ≤ al * c) (h4 : 0 ≤ al * Q) : 0 ≤ H + (u1 * (395 * (al * Q / 1 + 1) + 145 * (al * c * W) + 1001 / 1000 * (139 / 20 * (B / 1 + 1) + H)) + 36 * tz) ∧ H + (u1 * (395 * (al * Q / 1 + 1) + 145 * (al * c * W) + 1001 / 1000 * (139 / 20 * (B / 1 + 1) + H)) + 36 * tz) ≤ 1 := by
  have a := Rat.mul_le_mul_of_nonneg_right h1 hW0
  have a0 := Rat.mul_nonneg h3 hW0
  rw [show 401 / 100 * B * W = 401 / 100 * (B * W) by grind] at a
  generalize al * c * W = X at *
  generalize B * W = Y at *
  generalize al * Q = Z at *
  unfold u1 uu tz
  clear h1 h3
  grind
theorem num_B1 {B ga F x k : Rat} (hga : ga = k / 2 ^ 14) (hk0 : 0 ≤ k) (hk : k ≤ 40) (hF : F = 8 / 25 + 1 / 500) (hx : 0 < x) (hB0 : 0 ≤ B) : (1 + 1 / 2 ^ 20) * (B - (1 - 2 * ga - 2 * F - 1 / 2 ^ 16) * x + 1 / 2 ^ 32 * B) ≤ 2 * B := by
  have a : 0 ≤ 1 - 2 * ga - 2 * F - 1 / 2 ^ 16 := by
    subst hga hF
    grind
  have b := Rat.mul_nonneg a (Rat.le_of_lt hx)
  generalize (1 - 2 * ga - 2 * F - 1 / 2 ^ 16) * x = X at *
  grind
theorem iv_s {e : Nat → Nat → Rat} {dg om : Nat → Rat} {T : Nat → Prop} (hS : Sys e dg om T) {D er : Nat → Rat} {rk : Nat → Nat} (hM : Mak e dg om T D er rk) (hd4 : ∀ c, c < 36 → dg c ≤ 4) {r s : Nat → Rat} {c B H G V : Rat} {k : Nat} (hI : Iv e dg om T r s c B H G V (k : Rat)) (hk : k ≤ 40) (hBl : 1 / 2 ^ 68 ≤ B) (hP : Ph B H G k) {j : Nat} (hj : j < 36) : ab (s j) ≤ 2 ^ 90 := num_s (hI.2.2.2.2.1 j hj) hI.2.1.1 hI.2.2.2.2.2.2.2.1 Rat.natCast_nonneg (nat_rat hk) hBl
theorem iv_B {e : Nat → Nat → Rat} {dg om : Nat → Rat} {T : Nat → Prop} (hS : Sys e dg om T) {D er : Nat → Rat} {rk : Nat → Nat} (hM : Mak e dg om T D er rk) (hd4 : ∀ c, c < 36 → dg c ≤ 4) {r s : Nat → Rat} {c B H G V : Rat} {k : Nat} (hI : Iv e dg om T r s c B H G V (k : Rat)) (hk : k ≤ 40) (hBl : 1 / 2 ^ 68 ≤ B) (hP : Ph B H G k) : 0 ≤ B := Rat.le_trans (by decide +kernel) hBl
theorem iv_H {e : Nat → Nat → Rat} {dg om : Nat → Rat} {T : Nat → Prop} (hS : Sys e dg om T) {D er : Nat → Rat} {rk : Nat → Nat} (hM : Mak e dg om T D er rk) (hd4 : ∀ c, c < 36 → dg c ≤ 4) {r s : Nat → Rat} {c B H G V : Rat} {k : Nat} (hI : Iv e dg om T r s c B H G V (k : Rat)) (hk : k ≤ 40) (hBl : 1 / 2 ^ 68 ≤ B) (hP : Ph B H G k) : H * H * G ≤ 8 / 25 ∧ H * H ≤ 1 / 2 ^ 66 := ph_F hk hI.2.1.2.2.2 (iv_B hS hM hd4 hI hk hBl hP) hI.2.1.2.1 hP
theorem iv_r {e : Nat → Nat → Rat} {dg om : Nat → Rat} {T : Nat → Prop} (hS : Sys e dg om T) {D er : Nat → Rat} {rk : Nat → Nat} (hM : Mak e dg om T D er rk) (hd4 : ∀ c, c < 36 → dg c ≤ 4) {r s : Nat → Rat} {c B H G V : Rat} {k : Nat} (hI : Iv e dg om T r s c B H G V (k : Rat)) (hk : k ≤ 40) (hBl : 1 / 2 ^ 68 ≤ B) (hP : Ph B H G k) {j : Nat} (hj : j < 36) : ab (r j) ≤ 2 ^ 10 := by
  rcases Classical.em (T j) with ht | ht
  · have := r_le hS hM hI.1.1 hI.1.2.1 hd4 hI.2.1.2.2.2 hj ht
    refine num_r this (Rat.le_trans hI.2.2.2.2.2.2.2.2.2 (by decide +kernel)) (Rat.le_trans (iv_H hS hM hd4 hI hk hBl hP).2 (by decide +kernel))
  · rw [hI.1.2.2.2 j ht]
    decide +kernel
theorem iv_St {e : Nat → Nat → Rat} {dg om : Nat → Rat} {T : Nat → Prop} (hS : Sys e dg om T) {D er : Nat → Rat} {rk : Nat → Nat} (hM : Mak e dg om T D er rk) (hd4 : ∀ c, c < 36 → dg c ≤ 4) {r s : Nat → Rat} {c B H G V : Rat} {k : Nat} (hI : Iv e dg om T r s c B H G V (k : Rat)) (hk : k ≤ 40) (hBl : 1 / 2 ^ 68 ≤ B) (hP : Ph B H G k) : St e dg om T r s c B H (H * G + V) ((k : Rat) / 2 ^ 14) (8 / 25 + 1 / 500) := by
  obtain ⟨h1, h2⟩ := iv_H hS hM hd4 hI hk hBl hP
  refine iv_st hI Rat.natCast_nonneg (nat_rat hk) Rat.le_refl h1 (Rat.le_trans h2 ?_)
  generalize H * H = X at *
  clear hP hI hM hS
  grind
theorem iv_rp {e : Nat → Nat → Rat} {dg om : Nat → Rat} {T : Nat → Prop} (hS : Sys e dg om T) {D er : Nat → Rat} {rk : Nat → Nat} (hM : Mak e dg om T D er rk) (hd4 : ∀ c, c < 36 → dg c ≤ 4) {r s : Nat → Rat} {c B H G V : Rat} {k : Nat} (hI : Iv e dg om T r s c B H G V (k : Rat)) (hk : k ≤ 40) (hBl : 1 / 2 ^ 68 ≤ B) (hP : Ph B H G k) {q rp : Nat → Rat} {d al : Rat} (hN : Rn e dg T r s c q d al rp) {j : Nat} (hj : j < 36) : ab (rp j) ≤ 2 ^ 10 := by
  have st := iv_St hS hM hd4 hI hk hBl hP
  have B0 := iv_B hS hM hd4 hI hk hBl hP
  have B14 := hI.2.2.2.2.2.2.2.2.2
  rcases Classical.em (T j) with ht | ht
  · obtain ⟨a1, a2, a3⟩ := sc_ac hS hM hd4 st hN
    have E := eb_mono (sc_eb hS hM hd4 st hN) (num_B1 rfl Rat.natCast_nonneg (nat_rat hk) rfl a3 B0)
    have dr := sc_dr hS hM hd4 st hN (la := 1) (ta := 1) (by decide) (by decide)
    obtain ⟨-, al0, -⟩ := sc_al hS hM hd4 st hN
    obtain ⟨q0, -, -⟩ := sc_q hS hM hd4 st
    obtain ⟨n1, n2⟩ := num_H1 (num_H (iv_H hS hM hd4 hI hk hBl hP).2 hI.2.1.2.2.2) hI.2.1.2.2.2 B14 B0 st.1.2.2.2.2.1 (num_BW st.2.2.1 B0 B14) a1 a2 (Rat.le_of_lt a3) (Rat.mul_nonneg (Rat.le_of_lt al0) (Rat.mul_nonneg (Rat.le_of_lt al0) (Rat.le_of_lt q0)))
    have := r_le hS hM E (hb_mono dr n2) hd4 (by decide) hj ht
    refine num_r this ?_ (by decide +kernel)
    generalize B = X at *
    clear this dr E hP hI hM hS st hN
    grind
  · rw [hN.2.2.2.2.2.2.2.1 j ht]
    decide +kernel
/-- a finite double below the least one is a zero -/
theorem rv_0 {x : UInt64} (hx : fn x) (h : ab (rv x) ≤ tt) : rv x = 0 := by
  rw [rv_z hx] at h ⊢
  generalize FP.Core.zval FP.Core.b64 (FP.Core.val64 x) = v at *
  have e : (2 : Rat) ^ (-1074 : Int) = 2 * tt := by
    unfold tt
    rw [show (-1074 : Int) = -1075 + 1 by decide, p2_add, Rat.zpow_one]
    grind
  rw [e] at h ⊢
  have t0 := tt_0
  rw [ab_mul, ab_of (show 0 ≤ 2 * tt by grind), ← na_val] at h
  have hv : v.natAbs = 0 := by
    refine Nat.eq_zero_of_not_pos (fun z => ?_)
    have z2 : ((1 : Nat) : Rat) ≤ ((v.natAbs : Nat) : Rat) := nat_rat z
    have z3 := Rat.mul_le_mul_of_nonneg_right z2 (show 0 ≤ 2 * tt by grind)
    generalize ((v.natAbs : Nat) : Rat) * (2 * tt) = X at *
    have e1 : ((1 : Nat) : Rat) = 1 := rfl
    rw [e1] at z3
    grind
  have : v = 0 := Int.natAbs_eq_zero.mp hv
  rw [this]
  exact Rat.zero_mul _
theorem rd_0 {x : UInt64} {y : Rat} (h : rd x y) (h0 : y = 0) : rv x = 0 := by
  subst h0
  refine rv_0 h.1 ?_
  have := h.2
  rw [show rv x - 0 = rv x by grind, ab_of Rat.le_refl, Rat.mul_zero, Rat.zero_add] at this
  exact this
/-- 2 to the -10, exactly -/
theorem mul_m10 {x : UInt64} (hx : fn x) (h1 : 1 / 2 ^ 66 ≤ rv x) (h2 : rv x ≤ 2 ^ 200) : fn (FP.dmul x 4562146422526312448) ∧ rv (FP.dmul x 4562146422526312448) = rv x / 1024 := by
  rw [show FP.dmul x 4562146422526312448 = FP.dmul 4562146422526312448 x from FP.Core.dmul_comm x 4562146422526312448]
  obtain ⟨s, c, q, ex⟩ := hx
  have hd : FP.Core.val64 4562146422526312448 = .fin false (2 ^ 52) (-62) := by decide +kernel
  have hf := FP.Core.val64_fits x
  unfold rv at h1 h2
  rw [ex] at hf h1 h2
  have hs : s = false := by
    cases s with
    | false => rfl
    | true =>
      rw [dv_sg, if_pos rfl] at h1
      have := cq_nn c q
      generalize (c : Rat) * 2 ^ q = Y at *
      exfalso
      grind
  subst hs
  rw [dv_sg, if_neg (by decide)] at h1 h2
  have hc : c < 2 ^ 53 := hf.1
  have q1 : -119 ≤ q := by
    refine Int.not_lt.mp (fun z => ?_)
    have a1 : (2 : Rat) ^ q ≤ 2 ^ (-120 : Int) := p2_le (by omega)
    have a2 : (c : Rat) ≤ ((2 ^ 53 : Nat) : Rat) := nat_rat (by omega)
    have a3 := mul_le2 a2 a1 Rat.natCast_nonneg (Rat.le_of_lt (p2_pos _))
    have a4 := Rat.le_trans h1 a3
    exact absurd a4 (by decide +kernel)
  have c1 : 1 ≤ c := by
    refine Nat.one_le_iff_ne_zero.mpr (fun z => ?_)
    subst z
    have e0 : ((0 : Nat) : Rat) = 0 := rfl
    rw [e0, Rat.zero_mul] at h1
    exact absurd h1 (by decide +kernel)
  have q2 : q ≤ 200 := by
    refine Int.not_lt.mp (fun z => ?_)
    have a1 : (2 : Rat) ^ (201 : Int) ≤ 2 ^ q := p2_le (by omega)
    have a2 : (1 : Rat) ≤ c := nat_rat c1
    have a3 := mul_le2 a2 a1 (by decide) (Rat.le_of_lt (p2_pos _))
    have a4 := Rat.le_trans a3 h2
    exact absurd a4 (by decide +kernel)
  have qm : FP.Core.b64.qmin ≤ q + -10 := by
    have : FP.Core.b64.qmin = -1074 := by decide
    omega
  have qM : q + -10 ≤ FP.Core.b64.qmax := by
    have : FP.Core.b64.qmax = 971 := by decide
    omega
  have e1 : FP.Core.round FP.Core.b64 (FP.Core.exactProduct (.fin false (2 ^ 52) (-62)) (.fin false c q)) = FP.Core.round FP.Core.b64 (.fin false c (q + -10)) := by
    have r := FP.Core.round_inUnits (f := FP.Core.b64) false c (q := q + -10) (e := q + -10 - 52) (by omega)
    rw [← r]
    have e2 : FP.Core.inUnits c (q + -10) (q + -10 - 52) = 2 ^ 52 * c := by
      unfold FP.Core.inUnits
      rw [show (q + -10 - (q + -10 - 52)).toNat = 52 by omega, Nat.mul_comm]
    rw [e2]
    show FP.Core.round FP.Core.b64 (.fin (false != false) (2 ^ 52 * c) ((-62 : Int) + q)) = _
    rw [show (-62 : Int) + q = q + -10 - 52 by omega]
    rfl
  obtain ⟨c', q', r1, r2⟩ := FP.Core.round_exact FP.Core.good_b64 false (c := c) (q := q + -10) hf.1 qm qM
  have hv : FP.Core.val64 (FP.dmul 4562146422526312448 x) = .fin false c' q' := by
    have := FP.Core.val64_dmul 4562146422526312448 x
    rw [hd, ex, e1, r1] at this
    exact this
  refine ⟨⟨false, c', q', hv⟩, ?_⟩
  unfold rv
  rw [hv, ex]
  have hfit : FP.Core.fits FP.Core.b64 (.fin false c' q') := by
    have := FP.Core.val64_fits (FP.dmul 4562146422526312448 x)
    rw [hv] at this
    exact this
  rw [← dv_units false c' hfit.2.1, r2, dv_units false c qm, dv_sg, dv_sg, p2_add]
  rw [if_neg (by decide), if_neg (by decide), show (2 : Rat) ^ (-10 : Int) = 1 / 1024 by decide +kernel]
  generalize (2 : Rat) ^ q = Y
  clear h1 h2 r1 r2 hv e1 hd
  grind
