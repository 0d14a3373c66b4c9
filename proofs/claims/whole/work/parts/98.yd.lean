/-! the matrix times a row, rounded -/
theorem mul_p2 {x d : UInt64} {j : Nat} (hj : j ≤ 2) (hd : FP.Core.val64 d = .fin false (2 ^ 52) ((j : Int) - 52)) (hx : fn x) (hb : ab (rv x) ≤ 2 ^ 200) : fn (FP.dmul d x) ∧ rv (FP.dmul d x) = ((2 ^ j : Nat) : Rat) * rv x := by
  obtain ⟨s, c, q, ex⟩ := hx
  have hf := FP.Core.val64_fits x
  rw [ex] at hf
  have hq : q + j ≤ FP.Core.b64.qmax := by
    have em : FP.Core.b64.qmax = 971 := by decide
    rw [em]
    refine Int.not_lt.mp (fun z => ?_)
    rcases Nat.eq_zero_or_pos c with h0 | h0
    · subst h0
      have := FP.Core.fits_zero_q FP.Core.good_b64 hf
      have e2 : FP.Core.b64.qmin = -1074 := by decide
      omega
    · unfold rv at hb
      rw [ex, dv_sg, ab_sg _ (cq_nn c q)] at hb
      have h1 : (1 : Rat) ≤ c := nat_rat h0
      have h2 : (2 : Rat) ^ (201 : Int) ≤ 2 ^ q := p2_le (by omega)
      have h3 := mul_le2 h1 h2 (by decide) (Rat.le_of_lt (p2_pos q))
      have h4 : (2 : Rat) ^ (201 : Int) = 2 * 2 ^ 200 := by decide +kernel
      rw [h4] at h3
      generalize (c : Rat) * 2 ^ q = Y at *
      clear h2 h4
      grind
  have e1 : FP.Core.round FP.Core.b64 (FP.Core.exactProduct (.fin false (2 ^ 52) ((j : Int) - 52)) (.fin s c q)) = FP.Core.round FP.Core.b64 (.fin s c (q + j)) := by
    have r := FP.Core.round_inUnits (f := FP.Core.b64) s c (q := q + j) (e := q + j - 52) (by omega)
    rw [← r]
    have e2 : FP.Core.inUnits c (q + j) (q + j - 52) = 2 ^ 52 * c := by
      unfold FP.Core.inUnits
      rw [show (q + j - (q + j - 52)).toNat = 52 by omega, Nat.mul_comm]
    rw [e2]
    show FP.Core.round FP.Core.b64 (.fin (false != s) (2 ^ 52 * c) ((j : Int) - 52 + q)) = _
    rw [show (j : Int) - 52 + q = q + j - 52 by omega]
    cases s <;> rfl
  have qm : FP.Core.b64.qmin ≤ q + j := by have := hf.2.1; omega
  obtain ⟨c', q', r1, r2⟩ := FP.Core.round_exact FP.Core.good_b64 s (c := c) (q := q + j) hf.1 qm hq
  have hv : FP.Core.val64 (FP.dmul d x) = .fin s c' q' := by
    have := FP.Core.val64_dmul d x
    rw [hd, ex, e1, r1] at this
    exact this
  refine ⟨⟨s, c', q', hv⟩, ?_⟩
  unfold rv
  rw [hv, ex]
  have hfit : FP.Core.fits FP.Core.b64 (.fin s c' q') := by
    have := FP.Core.val64_fits (FP.dmul d x)
    rw [hv] at this
    exact this
  rw [← dv_units s c' hfit.2.1, r2, dv_units s c qm, dv_sg, dv_sg, p2_add, p2_nat]
  cases s with
  | false =>
    rw [if_neg (by decide), if_neg (by decide)]
    generalize (2 : Rat) ^ q = Y
    generalize ((2 ^ j : Nat) : Rat) = Z
    clear hb r1 r2 hv e1
    grind
  | true =>
    rw [if_pos rfl, if_pos rfl]
    generalize (2 : Rat) ^ q = Y
    generalize ((2 ^ j : Nat) : Rat) = Z
    clear hb r1 r2 hv e1
    grind
theorem dn_val : ∀ j : Fin 3, FP.Core.val64 (FP.i2d (nI (2 ^ j.val))) = .fin false (2 ^ 52) ((j.val : Int) - 52) := by decide +kernel
/-- a whole number times a double -/
theorem pd_v {n : Nat} {x : UInt64} (hn : n ≤ 4) (hx : fn x) (hb : ab (rv x) ≤ 2 ^ 110) : rd (FP.dmul (FP.i2d (nI n)) x) ((n : Rat) * rv x) ∧ ((n = 1 ∨ n = 2 ∨ n = 4) → rv (FP.dmul (FP.i2d (nI n)) x) = (n : Rat) * rv x) := by
  have e : rv (FP.i2d (nI n)) = (n : Rat) := dc_v ⟨n, by omega⟩
  constructor
  · have := mul_small (dc_fn n) hx (by rw [e, ab_of Rat.natCast_nonneg]; exact Rat.le_trans (nat_rat hn) (by decide +kernel)) (Rat.le_trans hb (by decide +kernel))
    rw [e] at this
    exact this
  · intro h
    have hb2 : ab (rv x) ≤ 2 ^ 200 := Rat.le_trans hb (by decide +kernel)
    rcases h with h | h | h
    · subst h
      exact (mul_p2 (j := 0) (by omega) (dn_val ⟨0, by omega⟩) hx hb2).2
    · subst h
      exact (mul_p2 (j := 1) (by omega) (dn_val ⟨1, by omega⟩) hx hb2).2
    · subst h
      exact (mul_p2 (j := 2) (by omega) (dn_val ⟨2, by omega⟩) hx hb2).2
theorem num_t1 {y x a P E Q : Rat} (h1 : ab (y - (x - a)) ≤ uu * ab (x - a) + tt) (h2 : ab (x - P) ≤ E) (h3 : ab (P - a) ≤ Q) : ab (y - (P - a)) ≤ E + 1 * (uu * (Q + E) + tt) := by
  have w1 := ab_add (x - P) (P - a)
  have w2 := ab_add (y - (x - a)) (x - P)
  rw [show x - P + (P - a) = x - a by grind] at w1
  rw [show y - (x - a) + (x - P) = y - (P - a) by grind] at w2
  have w3 := Rat.mul_le_mul_of_nonneg_left (Rat.le_trans w1 (rat_add_le h2 h3)) (Rat.le_of_lt uu_0)
  generalize uu * ab (x - a) = X at *
  grind
theorem num_t2 {x P E : Rat} (h1 : ab (x - P) ≤ E) (hP : ab P ≤ 2 ^ 200) (hE : E ≤ 2 ^ 200) : ab x ≤ 2 ^ 240 := by
  have w := ab_add (x - P) P
  rw [show x - P + P = x by grind] at w
  grind
theorem tm_st {tk : Nat → Int32} {s : Nat → UInt64} {c w : Nat} {x : UInt64} {P E Q : Rat} (hc : c < 36) (hw : w < 4) (hx : fn x) (hE : ab (rv x - P) ≤ E) (hP : ab P ≤ 2 ^ 200) (hE2 : E ≤ 2 ^ 200) (hs : nbT tk c w → fn (s (nbN c w)) ∧ ab (rv (s (nbN c w))) ≤ 2 ^ 200 ∧ ab (P - rv (s (nbN c w))) ≤ Q) : fn (if nearI tk c w < 0 then x else FP.dsub x (s (nearI tk c w).toNatClampNeg)) ∧ ab (rv (if nearI tk c w < 0 then x else FP.dsub x (s (nearI tk c w).toNatClampNeg)) - (P - tm4 tk (fun p => rv (s p)) c w)) ≤ E + ind (nbT tk c w) * (uu * (Q + E) + tt) := by
  unfold tm4
  rcases Classical.em (nbT tk c w) with g | g
  · obtain ⟨-, n2, n3, n4⟩ := nb_pos hc hw g
    obtain ⟨h1, h2, h3⟩ := hs g
    obtain ⟨a1, a2⟩ := sub_small hx h1 (num_t2 hE hP hE2) (Rat.le_trans h2 (by decide +kernel))
    rw [if_neg n2, n3, ind_t g, Rat.one_mul]
    exact ⟨a1, num_t1 a2 hE h3⟩
  · have n2 := nb_neg hc hw g
    rw [if_pos n2, ind_f g, Rat.zero_mul, Rat.zero_mul, Rat.add_zero, show P - 0 = P by grind]
    exact ⟨hx, hE⟩
/-- what is left of the exact product behind w neighbours -/
noncomputable def tP (tk : Nat → Int32) (dn : Nat → Nat) (s : Nat → UInt64) (c : Nat) : Nat → Rat
  | 0 => (dn c : Rat) * rv (s c)
  | w + 1 => tP tk dn s c w - tm4 tk (fun p => rv (s p)) c w
noncomputable def tS (tk : Nat → Int32) (s : Nat → UInt64) (c : Nat) : Nat → Rat
  | 0 => ab (rv (s c))
  | w + 1 => tS tk s c w + tm4 tk (fun p => ab (rv (s p))) c w
theorem tm4_nn {tk : Nat → Int32} {f : Nat → Rat} {c w : Nat} (h : ∀ p, 0 ≤ f p) : 0 ≤ tm4 tk f c w := Rat.mul_nonneg (ind_nn _) (h _)
theorem tm4_abs {tk : Nat → Int32} {s : Nat → UInt64} {c w : Nat} : ab (tm4 tk (fun p => rv (s p)) c w) = tm4 tk (fun p => ab (rv (s p))) c w := by
  unfold tm4
  rw [ab_mul, ab_of (ind_nn _)]
theorem tS_up (tk : Nat → Int32) (s : Nat → UInt64) (c : Nat) : ∀ w, w ≤ 4 → tS tk s c w ≤ tS tk s c 4 := fun w hw => by
  have k : ∀ v, tS tk s c v ≤ tS tk s c (v + 1) := fun v => by
    have := tm4_nn (tk := tk) (f := fun p => ab (rv (s p))) (c := c) (w := v) (fun p => ab_nn _)
    show tS tk s c v ≤ tS tk s c v + tm4 tk (fun p => ab (rv (s p))) c v
    generalize tm4 tk (fun p => ab (rv (s p))) c v = X at *
    generalize tS tk s c v = Y at *
    grind
  have k0 := k 0
  have k1 := k 1
  have k2 := k 2
  have k3 := k 3
  match w, hw with
  | 0, _ => exact Rat.le_trans k0 (Rat.le_trans k1 (Rat.le_trans k2 k3))
  | 1, _ => exact Rat.le_trans k1 (Rat.le_trans k2 k3)
  | 2, _ => exact Rat.le_trans k2 k3
  | 3, _ => exact k3
  | 4, _ => exact Rat.le_refl
theorem num_t3 {P T P2 S S2 A : Rat} (h : ab P ≤ 3 * A + S) (hT : ab T = S2) : ab (P - T) ≤ 3 * A + (S + S2) := by
  have := ab_sub P T
  grind
theorem num_t4 {n s : Rat} (hn : 0 ≤ n) (hn4 : n ≤ 4) : ab (n * s) ≤ 3 * ab s + ab s := by
  rw [ab_mul, ab_of hn]
  have := Rat.mul_le_mul_of_nonneg_right hn4 (ab_nn s)
  grind
theorem tP_le {tk : Nat → Int32} {dn : Nat → Nat} {s : Nat → UInt64} {c : Nat} (hn : dn c ≤ 4) : ∀ w, ab (tP tk dn s c w) ≤ 3 * ab (rv (s c)) + tS tk s c w
  | 0 => num_t4 Rat.natCast_nonneg (nat_rat hn)
  | w + 1 => num_t3 (P2 := 0) (tP_le hn w) tm4_abs
theorem num_t5 {A S S4 P : Rat} (hA : A ≤ S4) (hS : S ≤ S4) (h : ab P ≤ 3 * A + S) : ab P ≤ 4 * S4 := by grind
theorem num_t6 {E S w i : Rat} (hE : E ≤ (4 + 5 * w) * (uu * S) + (1 + 2 * w) * tt) (hw : w ≤ 3) (hw0 : 0 ≤ w) (hS : 0 ≤ S) (hi0 : 0 ≤ i) (hi1 : i ≤ 1) (hE0 : 0 ≤ E) : E + i * (uu * (4 * S + E) + tt) ≤ (4 + 5 * (w + 1)) * (uu * S) + (1 + 2 * (w + 1)) * tt := by
  have t0 := tt_0
  have u0 := uu_0
  have x0 : 0 ≤ uu * (4 * S + E) + tt := by
    have := Rat.mul_nonneg (Rat.le_of_lt u0) (show 0 ≤ 4 * S + E by grind)
    grind
  have x1 := Rat.mul_le_mul_of_nonneg_right hi1 x0
  have uS := Rat.mul_nonneg (Rat.le_of_lt u0) hS
  have y1 := Rat.mul_le_mul_of_nonneg_right (show 4 + 5 * w ≤ 19 by grind) uS
  have y2 := Rat.mul_le_mul_of_nonneg_right (show 1 + 2 * w ≤ 7 by grind) (Rat.le_of_lt t0)
  have eE : E ≤ 19 * (uu * S) + 7 * tt := by grind
  have z : uu * E ≤ uu * S + tt / 2 := by
    have := Rat.mul_le_mul_of_nonneg_left eE (Rat.le_of_lt u0)
    refine Rat.le_trans this ?_
    clear this x0 x1 y1 y2 eE hE uS
    unfold uu
    grind
  have e1 : uu * (4 * S + E) = 4 * (uu * S) + uu * E := by grind
  rw [e1] at x1
  generalize uu * S = US at *
  generalize uu * E = UE at *
  rw [e1]
  have e2 : (4 + 5 * (w + 1)) * US + (1 + 2 * (w + 1)) * tt = (4 + 5 * w) * US + (1 + 2 * w) * tt + 5 * US + 2 * tt := by grind
  rw [e2]
  generalize (4 + 5 * w) * US + (1 + 2 * w) * tt = B at *
  grind
