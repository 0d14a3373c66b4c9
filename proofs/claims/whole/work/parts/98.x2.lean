/-! doubles as numbers: every operation within half a unit of its last digit -/
/-- a double's value -/
def dv (d : FP.Core.Datum) : Rat := match d with
  | .fin s c q => (FP.Core.signed s c : Rat) * (2 : Rat) ^ q
  | _ => 0
def rv (x : UInt64) : Rat := dv (FP.Core.val64 x)
abbrev fn (x : UInt64) : Prop := FP.Core.DFin x
def ab (x : Rat) : Rat := if 0 ≤ x then x else -x
theorem ab_nn (x : Rat) : 0 ≤ ab x := by unfold ab; grind
theorem ab_le {x y : Rat} : ab x ≤ y ↔ x ≤ y ∧ -x ≤ y := by unfold ab; grind
theorem ab_of {x : Rat} (h : 0 ≤ x) : ab x = x := by unfold ab; grind
theorem ab_neg (x : Rat) : ab (-x) = ab x := by unfold ab; grind
theorem ab_self (x : Rat) : x ≤ ab x := by unfold ab; grind
theorem ab_self' (x : Rat) : -x ≤ ab x := by unfold ab; grind
theorem ab_add (x y : Rat) : ab (x + y) ≤ ab x + ab y := by unfold ab; grind
theorem ab_sub (x y : Rat) : ab (x - y) ≤ ab x + ab y := by unfold ab; grind
theorem ab_sub_comm (x y : Rat) : ab (x - y) = ab (y - x) := by unfold ab; grind
theorem sq_nn (a : Rat) : 0 ≤ a * a := by
  rcases (Rat.le_total : 0 ≤ a ∨ a ≤ 0) with h | h
  · exact Rat.mul_nonneg h h
  · have := Rat.mul_nonneg (show 0 ≤ -a by grind) (show 0 ≤ -a by grind)
    grind
theorem ab_mul (x y : Rat) : ab (x * y) = ab x * ab y := by
  rcases (Rat.le_total : 0 ≤ x ∨ x ≤ 0) with h | h <;> rcases (Rat.le_total : 0 ≤ y ∨ y ≤ 0) with k | k
  · rw [ab_of h, ab_of k, ab_of (Rat.mul_nonneg h k)]
  · have := Rat.mul_nonneg h (show 0 ≤ -y by grind)
    rw [← ab_neg, ← ab_neg y, ab_of h, ab_of (show 0 ≤ -y by grind), show -(x * y) = x * -y by grind, ab_of this]
  · have := Rat.mul_nonneg (show 0 ≤ -x by grind) k
    rw [← ab_neg, ← ab_neg x, ab_of k, ab_of (show 0 ≤ -x by grind), show -(x * y) = -x * y by grind, ab_of this]
  · have := Rat.mul_nonneg (show 0 ≤ -x by grind) (show 0 ≤ -y by grind)
    rw [← ab_neg x, ← ab_neg y, ab_of (show 0 ≤ -x by grind), ab_of (show 0 ≤ -y by grind), show x * y = -x * -y by grind, ab_of this]
theorem p2_pos (q : Int) : 0 < (2 : Rat) ^ q := Rat.zpow_pos (by decide)
theorem p2_add (a b : Int) : (2 : Rat) ^ (a + b) = 2 ^ a * 2 ^ b := Rat.zpow_add (by decide) a b
theorem p2_nat (n : Nat) : (2 : Rat) ^ (n : Int) = ((2 ^ n : Nat) : Rat) := by rw [Rat.zpow_natCast, Rat.natCast_pow]; rfl
theorem p2_le {a b : Int} (h : a ≤ b) : (2 : Rat) ^ a ≤ 2 ^ b := by
  obtain ⟨n, rfl⟩ : ∃ n : Nat, b = a + n := ⟨(b - a).toNat, by omega⟩
  rw [p2_add, p2_nat]
  have h1 : (1 : Rat) ≤ ((2 ^ n : Nat) : Rat) := by
    have := Rat.natCast_le_natCast.mpr (Nat.one_le_two_pow (n := n))
    exact this
  have := Rat.mul_le_mul_of_nonneg_left h1 (Rat.le_of_lt (p2_pos a))
  grind
theorem p2_lt_inv {a b : Int} (h : (2 : Rat) ^ a < 2 ^ b) : a < b := by
  refine Int.not_le.mp (fun z => ?_)
  have := p2_le z
  grind
/-- the units of a ratio: num / den in units of 2^q is (A/B) 2^(e-q) -/
theorem un_val (A B : Nat) (e q : Int) : ((FP.Core.unitsNum A e q : Nat) : Rat) * (B : Rat) * (2 : Rat) ^ q = (FP.Core.unitsDen B e q : Nat) * ((A : Rat) * (2 : Rat) ^ e) := by
  unfold FP.Core.unitsNum FP.Core.unitsDen
  rw [Rat.natCast_mul, Rat.natCast_mul, ← p2_nat, ← p2_nat]
  have e1 : (2 : Rat) ^ ((e - q).toNat : Int) * 2 ^ q = 2 ^ ((q - e).toNat : Int) * 2 ^ e := by
    rw [← p2_add, ← p2_add]
    congr 1
    omega
  have : (A : Rat) * 2 ^ ((e - q).toNat : Int) * B * 2 ^ q = A * B * (2 ^ ((e - q).toNat : Int) * 2 ^ q) := by grind
  rw [this, e1]
  grind
def uu : Rat := 1 / 9007199254740992
def tt : Rat := (2 : Rat) ^ (-1075 : Int)
theorem uu_p : uu = (2 : Rat) ^ (-53 : Int) := by
  rw [Rat.zpow_neg, show (53 : Int) = ((53 : Nat) : Int) from rfl, p2_nat]
  unfold uu
  rw [Rat.div_def, Rat.one_mul]
  rfl
def big : Rat := (2 : Rat) ^ (1000 : Int)
/-- a ratio's rounding: close, and finite where the ratio isn't too large -/
theorem rr_err {s : Bool} {A B : Nat} {e : Int} {x : Rat} (hB : 0 < B) (hx : x * B = A * (2 : Rat) ^ e) (hl : x ≤ big) : ∃ c q, FP.Core.roundRatio FP.Core.b64 s A B e = .fin s c q ∧ ab ((c : Rat) * 2 ^ q - x) ≤ uu * x + tt := by
  have hBr : (0 : Rat) < B := Rat.natCast_pos.mpr hB
  have hx0 : 0 ≤ x := by
    refine Rat.le_of_mul_le_mul_right (c := (B : Rat)) ?_ hBr
    rw [hx, Rat.zero_mul]
    exact Rat.mul_nonneg Rat.natCast_nonneg (Rat.le_of_lt (p2_pos e))
  have ht : 0 < tt := p2_pos _
  have hu : 0 < uu := by unfold uu; decide +kernel
  have hux := Rat.mul_nonneg (Rat.le_of_lt hu) hx0
  unfold FP.Core.roundRatio
  by_cases hA : A = 0
  · rw [if_pos hA]
    refine ⟨0, _, rfl, ?_⟩
    subst hA
    have : x = 0 := by
      have h1 : x * B = 0 := by rw [hx]; exact Rat.zero_mul _
      rcases Rat.mul_eq_zero.mp h1 with h | h
      · exact h
      · grind
    subst this
    rw [show ((0 : Nat) : Rat) * 2 ^ FP.Core.b64.qmin - 0 = 0 from by rw [show ((0 : Nat) : Rat) = 0 from rfl]; grind]
    rw [ab_of (by decide)]
    grind
  · rw [if_neg hA]
    have hA : 0 < A := by omega
    unfold FP.Core.roundAt
    generalize hq : FP.Core.quantum FP.Core.b64 A B e = q
    have q1 : FP.Core.b64.qmin ≤ q := hq ▸ FP.Core.quantum_ge _ _ _ _
    have q2 := FP.Core.quantum_not_below (f := FP.Core.b64) hA hB e
    rw [hq] at q2
    have uv := un_val A B e q
    have ud : 0 < FP.Core.unitsDen B e q := FP.Core.unitsDen_pos hB e q
    obtain ⟨n1, n2, -⟩ := FP.Core.nearest_spec (FP.Core.unitsNum A e q) (FP.Core.unitsDen B e q) ud
    have nle := FP.Core.nearest_units_le (f := FP.Core.b64) hA hB e
    rw [hq] at nle
    generalize FP.Core.nearest (FP.Core.unitsNum A e q) (FP.Core.unitsDen B e q) = m at n1 n2 nle ⊢
    generalize FP.Core.unitsNum A e q = N at uv n1 n2
    generalize FP.Core.unitsDen B e q = Dn at uv ud n1 n2
    have hD : (0 : Rat) < Dn := Rat.natCast_pos.mpr ud
    have e1 : (N : Rat) * 2 ^ q = Dn * x := by
      have : ((N : Rat) * 2 ^ q - Dn * x) * B = 0 := by
        have e2 : (N : Rat) * B * 2 ^ q = (N * 2 ^ q) * B := by grind
        have e3 : (Dn : Rat) * (A * 2 ^ e) = (Dn * x) * B := by rw [← hx]; grind
        grind
      rcases Rat.mul_eq_zero.mp this with h | h
      · grind
      · grind
    have hP := p2_pos q
    have m1 : (2 : Rat) * N ≤ (2 * m + 1) * Dn := by
      have := Rat.natCast_le_natCast.mpr n1
      rw [Rat.natCast_mul, Rat.natCast_mul, Rat.natCast_add, Rat.natCast_mul] at this
      exact this
    have m2 : (2 : Rat) * m * Dn ≤ 2 * N + Dn := by
      have := Rat.natCast_le_natCast.mpr n2
      rw [Rat.natCast_mul, Rat.natCast_mul, Rat.natCast_add, Rat.natCast_mul] at this
      exact this
    have d1 : 2 * x ≤ (2 * m + 1) * 2 ^ q := by
      refine Rat.le_of_mul_le_mul_left (c := (Dn : Rat)) ?_ hD
      have := Rat.mul_le_mul_of_nonneg_right m1 (Rat.le_of_lt hP)
      grind
    have d2 : 2 * m * 2 ^ q ≤ 2 * x + 2 ^ q := by
      refine Rat.le_of_mul_le_mul_left (c := (Dn : Rat)) ?_ hD
      have := Rat.mul_le_mul_of_nonneg_right m2 (Rat.le_of_lt hP)
      grind
    have half : (2 : Rat) ^ q ≤ 2 * (uu * x + tt) := by
      rcases q2 with q2 | q2
      · have e4 : FP.Core.b64.qmin = (-1075 : Int) + 1 := by decide
        have : (2 : Rat) ^ q = 2 * tt := by
          rw [q2, e4, p2_add]
          unfold tt
          rw [Rat.zpow_one]
          grind
        grind
      · -- x >= 2^(q + 52)
        have h3 : (2 : Rat) ^ (q + 52) ≤ x := by
          unfold FP.Core.Below at q2
          have q3 := Nat.not_lt.mp q2
          have q4 := Rat.natCast_le_natCast.mpr q3
          rw [Rat.natCast_mul, Rat.natCast_mul, ← p2_nat, ← p2_nat] at q4
          have e5 : ((FP.Core.b64.p : Int) - 1) = 52 := by decide
          rw [e5] at q4
          refine Rat.le_of_mul_le_mul_left (c := (B : Rat)) ?_ hBr
          have e6 : (B : Rat) * x = A * 2 ^ e := by rw [← hx]; grind
          rw [e6]
          have e7 := Rat.mul_le_mul_of_nonneg_right q4 (Rat.le_of_lt (p2_pos (e - ((-(q - e + 52)).toNat : Int))))
          have e8 : (A : Rat) * 2 ^ ((-(q - e + 52)).toNat : Int) * 2 ^ (e - ((-(q - e + 52)).toNat : Int)) = A * 2 ^ e := by
            rw [Rat.mul_assoc, ← p2_add, show ((-(q - e + 52)).toNat : Int) + (e - ((-(q - e + 52)).toNat : Int)) = e by omega]
          have e9 : (B : Rat) * 2 ^ ((q - e + 52).toNat : Int) * 2 ^ (e - ((-(q - e + 52)).toNat : Int)) = B * 2 ^ (q + 52) := by
            rw [Rat.mul_assoc, ← p2_add, show ((q - e + 52).toNat : Int) + (e - ((-(q - e + 52)).toNat : Int)) = q + 52 by omega]
          rw [e8, e9] at e7
          exact e7
        have h4 : (2 : Rat) ^ q = 2 * (uu * 2 ^ (q + 52)) := by
          rw [uu_p, ← p2_add, show (-53 + (q + 52) : Int) = q + (-1) by omega, p2_add]
          rw [show (2 : Rat) ^ (-1 : Int) = 1 / 2 from by decide +kernel]
          grind
        have h5 := Rat.mul_le_mul_of_nonneg_left h3 (Rat.le_of_lt hu)
        grind
    have close : ab ((m : Rat) * 2 ^ q - x) ≤ uu * x + tt := by
      rw [ab_le]
      constructor <;> grind
    have qlt : q ≤ 949 := by
      rcases q2 with q2 | q2
      · rw [q2]; decide
      · refine Int.not_lt.mp (fun z => ?_)
        have w1 : (2 : Rat) ^ (950 : Int) ≤ 2 ^ q := p2_le (by omega)
        have w2 : (2 : Rat) ^ (950 : Int) = 2 ^ (-53 : Int) * 2 ^ (1003 : Int) := by
          rw [← p2_add, show (-53 + 1003 : Int) = 950 from rfl]
        have w3 : (2 : Rat) ^ (1003 : Int) = 2 ^ (3 : Int) * big := by
          unfold big
          rw [← p2_add, show (3 + 1000 : Int) = 1003 from rfl]
        have w4 : tt ≤ uu * big := by
          unfold big
          rw [uu_p, ← p2_add]
          exact p2_le (by omega)
        have w5 := Rat.mul_le_mul_of_nonneg_left hl (Rat.le_of_lt hu)
        have w6 : 0 < uu * big := Rat.mul_pos hu (p2_pos _)
        have w7 : (2 : Rat) ^ (3 : Int) = 8 := by decide +kernel
        rw [← uu_p, w3, w7] at w2
        generalize (2 : Rat) ^ (950 : Int) = Y at *
        grind
    have qm : FP.Core.b64.qmax = 971 := by decide
    unfold FP.Core.settle FP.Core.bound
    by_cases hm : m < 2 ^ FP.Core.b64.p
    · rw [if_pos hm, if_pos (by rw [qm]; omega)]
      exact ⟨m, q, rfl, close⟩
    · rw [if_neg hm, if_pos (by rw [qm]; omega)]
      refine ⟨_, _, rfl, ?_⟩
      have : m = 2 ^ FP.Core.b64.p := by omega
      have e10 : ((FP.Core.b64.tails : Nat) : Rat) * 2 ^ (q + 1) = m * 2 ^ q := by
        rw [this, p2_add, Rat.zpow_one]
        have : ((2 ^ FP.Core.b64.p : Nat) : Rat) = 2 * (FP.Core.b64.tails : Nat) := by decide +kernel
        rw [this]
        grind
      rw [e10]
      exact close
/-- the double is the number e, rounded -/
abbrev rd (x : UInt64) (e : Rat) : Prop := fn x ∧ ab (rv x - e) ≤ uu * ab e + tt
theorem sg_val (s : Bool) (c : Nat) : ((FP.Core.signed s c : Int) : Rat) = if s then -(c : Rat) else (c : Rat) := by
  unfold FP.Core.signed
  cases s with
  | false => rfl
  | true => exact Rat.intCast_neg _
theorem rnd {s : Bool} {A B : Nat} {e : Int} {x : Rat} (hB : 0 < B) (hx : x * B = A * (2 : Rat) ^ e) (hl : x ≤ big) : ∃ c q, FP.Core.roundRatio FP.Core.b64 s A B e = .fin s c q ∧ ab (dv (.fin s c q) - (if s then -x else x)) ≤ uu * x + tt := by
  obtain ⟨c, q, h1, h2⟩ := rr_err (s := s) hB hx hl
  refine ⟨c, q, h1, ?_⟩
  unfold dv
  dsimp only
  rw [sg_val]
  cases s with
  | false => exact h2
  | true =>
    rw [if_pos rfl, if_pos rfl, show -(c : Rat) * 2 ^ q - -x = -((c : Rat) * 2 ^ q - x) by grind, ab_neg]
    exact h2
theorem dv_units (s : Bool) (c : Nat) {q e : Int} (h : e ≤ q) : ((FP.Core.signed s (FP.Core.inUnits c q e) : Int) : Rat) * (2 : Rat) ^ e = dv (.fin s c q) := by
  unfold FP.Core.inUnits dv
  dsimp only
  rw [FP.Core.signed_mul, Rat.intCast_mul, Rat.mul_assoc]
  congr 1
  rw [Rat.intCast_natCast, ← p2_nat, ← p2_add, show ((q - e).toNat : Int) + e = q by omega]
theorem na_val (v : Int) : ((v.natAbs : Nat) : Rat) = ab (v : Rat) := by
  rcases Int.le_total 0 v with h | h
  · rw [ab_of (Rat.intCast_nonneg.mpr h), ← Rat.intCast_natCast, Int.natAbs_of_nonneg h]
  · rw [← ab_neg, ← Rat.intCast_neg, ab_of (Rat.intCast_nonneg.mpr (by omega)), ← Rat.intCast_natCast]
    congr 1
    omega
theorem sum_val {s t : Bool} {c d : Nat} {q r : Int} (hl : ab (dv (.fin s c q) + dv (.fin t d r)) ≤ big) : ∃ g k m, FP.Core.round FP.Core.b64 (FP.Core.exactSum (.fin s c q) (.fin t d r)) = .fin g k m ∧ ab (dv (.fin g k m) - (dv (.fin s c q) + dv (.fin t d r))) ≤ uu * ab (dv (.fin s c q) + dv (.fin t d r)) + tt := by
  unfold FP.Core.exactSum FP.Core.round
  dsimp only
  have hv : ((FP.Core.sumUnits s c q t d r (min q r) : Int) : Rat) * 2 ^ (min q r) = dv (.fin s c q) + dv (.fin t d r) := by
    unfold FP.Core.sumUnits
    rw [Rat.intCast_add, Rat.add_mul, dv_units s c (by omega), dv_units t d (by omega)]
  generalize FP.Core.sumUnits s c q t d r (min q r) = v at hv ⊢
  generalize dv (.fin s c q) + dv (.fin t d r) = X at hv hl ⊢
  generalize min q r = e at hv ⊢
  have hp := p2_pos e
  have hx : ab X * ((1 : Nat) : Rat) = (v.natAbs : Nat) * (2 : Rat) ^ e := by
    rw [← hv, ab_mul, na_val, ab_of (Rat.le_of_lt hp)]
    show ab (v : Rat) * 2 ^ e * 1 = _
    grind
  obtain ⟨k, m, h1, h2⟩ := rnd (s := FP.Core.sumSign s t v) (B := 1) (by omega) hx hl
  refine ⟨_, k, m, h1, ?_⟩
  have e1 : (if FP.Core.sumSign s t v then -ab X else ab X) = X := by
    unfold FP.Core.sumSign
    by_cases h0 : v = 0
    · subst h0
      have : X = 0 := by rw [← hv]; exact Rat.zero_mul _
      subst this
      rw [ab_of (by decide)]
      simp
    · rw [if_neg h0]
      by_cases h3 : v < 0
      · rw [if_pos (by simpa using h3)]
        have : 0 ≤ -X := by
          rw [← hv, ← Rat.neg_mul]
          refine Rat.mul_nonneg ?_ (Rat.le_of_lt hp)
          rw [← Rat.intCast_neg]
          exact Rat.intCast_nonneg.mpr (by omega)
        rw [← ab_neg, ab_of this]
        grind
      · rw [if_neg (by simpa using h3)]
        refine ab_of ?_
        rw [← hv]
        exact Rat.mul_nonneg (Rat.intCast_nonneg.mpr (by omega)) (Rat.le_of_lt hp)
  rw [e1] at h2
  exact h2
theorem fn_val {x : UInt64} (h : fn x) : ∃ s c q, FP.Core.val64 x = .fin s c q := h
theorem rd_of {x : UInt64} {g : Bool} {k : Nat} {m : Int} {e : Rat} (hv : FP.Core.val64 x = .fin g k m) (h : ab (dv (.fin g k m) - e) ≤ uu * ab e + tt) : rd x e := by
  refine ⟨⟨g, k, m, hv⟩, ?_⟩
  unfold rv
  rw [hv]
  exact h
theorem r_add {x y : UInt64} (hx : fn x) (hy : fn y) (hl : ab (rv x + rv y) ≤ big) : rd (FP.dadd x y) (rv x + rv y) := by
  obtain ⟨s, c, q, ex⟩ := fn_val hx
  obtain ⟨t, d, r, ey⟩ := fn_val hy
  unfold rv at hl ⊢
  rw [ex, ey] at hl ⊢
  obtain ⟨g, k, m, h1, h2⟩ := sum_val hl
  refine rd_of (g := g) (k := k) (m := m) ?_ h2
  have := FP.Core.val64_dadd x y
  rw [ex, ey, h1] at this
  exact this
theorem dv_neg (s : Bool) (c : Nat) (q : Int) : dv (.fin (!s) c q) = -dv (.fin s c q) := by
  unfold dv
  dsimp only
  rw [sg_val, sg_val]
  cases s with
  | false => show -(c : Rat) * _ = -((c : Rat) * _); grind
  | true => show (c : Rat) * _ = -(-(c : Rat) * _); grind
theorem r_sub {x y : UInt64} (hx : fn x) (hy : fn y) (hl : ab (rv x - rv y) ≤ big) : rd (FP.dsub x y) (rv x - rv y) := by
  obtain ⟨s, c, q, ex⟩ := fn_val hx
  obtain ⟨t, d, r, ey⟩ := fn_val hy
  unfold rv at hl ⊢
  rw [ex, ey] at hl ⊢
  rw [show dv (.fin s c q) - dv (.fin t d r) = dv (.fin s c q) + dv (.fin (!t) d r) by rw [dv_neg]; grind] at hl ⊢
  obtain ⟨g, k, m, h1, h2⟩ := sum_val hl
  refine rd_of (g := g) (k := k) (m := m) ?_ h2
  have := FP.Core.val64_dsub x y
  rw [ex, ey, show FP.Core.negate (.fin t d r) = .fin (!t) d r from rfl, h1] at this
  exact this
theorem sg_mul (s t : Bool) (x y : Rat) : (if s then -x else x) * (if t then -y else y) = if (s != t) then -(x * y) else x * y := by
  cases s <;> cases t <;> simp <;> grind
theorem dv_sg (s : Bool) (c : Nat) (q : Int) : dv (.fin s c q) = if s then -((c : Rat) * 2 ^ q) else (c : Rat) * 2 ^ q := by
  unfold dv
  dsimp only
  rw [sg_val]
  cases s <;> simp <;> grind
theorem ab_sg (s : Bool) {x : Rat} (h : 0 ≤ x) : ab (if s then -x else x) = x := by
  cases s with
  | false => exact ab_of h
  | true => rw [if_pos rfl, ab_neg, ab_of h]
theorem cq_nn (c : Nat) (q : Int) : 0 ≤ (c : Rat) * (2 : Rat) ^ q := Rat.mul_nonneg Rat.natCast_nonneg (Rat.le_of_lt (p2_pos q))
theorem r_mul {x y : UInt64} (hx : fn x) (hy : fn y) (hl : ab (rv x * rv y) ≤ big) : rd (FP.dmul x y) (rv x * rv y) := by
  obtain ⟨s, c, q, ex⟩ := fn_val hx
  obtain ⟨t, d, r, ey⟩ := fn_val hy
  unfold rv at hl ⊢
  rw [ex, ey, dv_sg, dv_sg, sg_mul] at hl ⊢
  have nn := Rat.mul_nonneg (cq_nn c q) (cq_nn d r)
  rw [ab_sg _ nn] at hl
  obtain ⟨k, m, h1, h2⟩ := rnd (s := s != t) (A := c * d) (B := 1) (e := q + r) (by omega) (x := (c : Rat) * 2 ^ q * (d * 2 ^ r)) (by
    rw [Rat.natCast_mul, p2_add]
    show _ * (1 : Rat) = _
    grind) hl
  refine rd_of (g := s != t) (k := k) (m := m) ?_ ?_
  · have := FP.Core.val64_dmul x y
    rw [ex, ey] at this
    exact this.trans h1
  · rw [ab_sg _ nn]
    exact h2
theorem r_div {x y : UInt64} (hx : fn x) (hy : fn y) (h0 : rv y ≠ 0) (hl : ab (rv x / rv y) ≤ big) : rd (FP.ddiv x y) (rv x / rv y) := by
  obtain ⟨s, c, q, ex⟩ := fn_val hx
  obtain ⟨t, d, r, ey⟩ := fn_val hy
  unfold rv at hl h0 ⊢
  rw [ex, ey] at hl ⊢
  rw [ey] at h0
  have hd : 0 < d := by
    rcases Nat.eq_zero_or_pos d with h | h
    · refine absurd ?_ h0
      rw [dv_sg, h]
      have : ((0 : Nat) : Rat) * (2 : Rat) ^ r = 0 := Rat.zero_mul _
      rw [this]
      split <;> rfl
    · exact h
  have hdr : (0 : Rat) < d := Rat.natCast_pos.mpr hd
  have hpr := p2_pos r
  have hy1 : (0 : Rat) < d * 2 ^ r := Rat.mul_pos hdr hpr
  have e1 : dv (.fin s c q) / dv (.fin t d r) = if (s != t) then -((c : Rat) * 2 ^ q / (d * 2 ^ r)) else (c : Rat) * 2 ^ q / (d * 2 ^ r) := by
    rw [dv_sg, dv_sg]
    generalize (c : Rat) * 2 ^ q = a at *
    generalize (d : Rat) * 2 ^ r = b at *
    cases s <;> cases t <;> simp <;> grind
  have nn : 0 ≤ (c : Rat) * 2 ^ q / (d * 2 ^ r) := by
    rw [Rat.div_def]
    exact Rat.mul_nonneg (cq_nn c q) (Rat.le_of_lt (Rat.inv_pos.mpr hy1))
  rw [e1] at hl ⊢
  rw [ab_sg _ nn] at hl
  obtain ⟨k, m, h1, h2⟩ := rnd (s := s != t) (A := c) (B := d) (e := q - r) hd (x := (c : Rat) * 2 ^ q / (d * 2 ^ r)) (by
    have e2 : (2 : Rat) ^ q = 2 ^ (q - r) * 2 ^ r := by rw [← p2_add, show q - r + r = q by omega]
    rw [e2]
    generalize (2 : Rat) ^ (q - r) = P at *
    generalize (2 : Rat) ^ r = Q at *
    have : (d : Rat) * Q ≠ 0 := by grind
    grind) hl
  refine rd_of (g := s != t) (k := k) (m := m) ?_ ?_
  · have := FP.Core.val64_ddiv x y
    rw [ex, ey] at this
    unfold FP.Core.quotient at this
    dsimp only at this
    rw [if_neg (by omega)] at this
    exact this.trans h1
  · rw [ab_sg _ nn]
    exact h2
theorem rv_z {x : UInt64} (h : fn x) : rv x = (FP.Core.zval FP.Core.b64 (FP.Core.val64 x) : Rat) * (2 : Rat) ^ (-1074 : Int) := by
  have hf := FP.Core.val64_fits x
  obtain ⟨s, c, q, e⟩ := fn_val h
  unfold rv
  rw [e] at hf ⊢
  obtain ⟨-, h2, -⟩ := hf
  have e1 : FP.Core.b64.qmin = -1074 := by decide
  have h3 : FP.Core.b64.qmin ≤ q := h2
  have := dv_units s c h3
  rw [← this, e1]
  rfl
theorem rv_cmp {x y : UInt64} (hx : fn x) (hy : fn y) : (rv x < rv y ∧ FP.dcmp x y = some .lt) ∨ (rv x = rv y ∧ FP.dcmp x y = some .eq) ∨ (rv y < rv x ∧ FP.dcmp x y = some .gt) := by
  have e : FP.dcmp x y = _ := FP.Core.dcmp_zval hx.ne_nan hy.ne_nan
  rw [e, rv_z hx, rv_z hy]
  generalize FP.Core.zval FP.Core.b64 (FP.Core.val64 x) = a
  generalize FP.Core.zval FP.Core.b64 (FP.Core.val64 y) = b
  have hp := p2_pos (-1074)
  rcases Int.lt_trichotomy a b with h | h | h
  · left
    refine ⟨Rat.mul_lt_mul_of_pos_right (Rat.intCast_lt_intCast.mpr h) hp, ?_⟩
    rw [FP.Core.compare_ite, if_pos h]
  · right; left
    refine ⟨by rw [h], ?_⟩
    rw [FP.Core.compare_ite, if_neg (by omega), if_pos h]
  · right; right
    refine ⟨Rat.mul_lt_mul_of_pos_right (Rat.intCast_lt_intCast.mpr h) hp, ?_⟩
    rw [FP.Core.compare_ite, if_neg (by omega), if_neg (by omega)]
theorem cv_gt {x y : UInt64} (hx : fn x) (hy : fn y) (o : CmpOp) : 0 < Op.cmpValue (FP.dcmp x y) o ↔ rv y < rv x := by
  rcases rv_cmp hx hy with ⟨h, e⟩ | ⟨h, e⟩ | ⟨h, e⟩ <;> rw [e] <;> constructor <;> intro z
  · exact absurd z (by cases o <;> decide)
  · grind
  · exact absurd z (by cases o <;> decide)
  · grind
  · exact h
  · cases o <;> decide
theorem cv_lt {x y : UInt64} (hx : fn x) (hy : fn y) (o : CmpOp) : Op.cmpValue (FP.dcmp x y) o < 0 ↔ rv x < rv y := by
  rcases rv_cmp hx hy with ⟨h, e⟩ | ⟨h, e⟩ | ⟨h, e⟩ <;> rw [e] <;> constructor <;> intro z
  · exact h
  · cases o <;> decide
  · exact absurd z (by cases o <;> decide)
  · grind
  · exact absurd z (by cases o <;> decide)
  · grind
theorem cv_le {x y : UInt64} (hx : fn x) (hy : fn y) (o : CmpOp) : Op.cmpValue (FP.dcmp x y) o ≤ 0 ↔ rv x ≤ rv y := by
  rw [← Int32.not_lt, cv_gt hx hy o, Rat.not_lt]
theorem cv_ge {x y : UInt64} (hx : fn x) (hy : fn y) (o : CmpOp) : 0 ≤ Op.cmpValue (FP.dcmp x y) o ↔ rv y ≤ rv x := by
  rw [← Int32.not_lt, cv_lt hx hy o, Rat.not_lt]
theorem rv_c0 : rv FP.dconst0 = 0 := by decide +kernel
theorem fn_c0 : fn FP.dconst0 := ⟨false, 0, -1074, by decide +kernel⟩
theorem rv_c1 : rv FP.dconst1 = 1 := by decide +kernel
theorem fn_c1 : fn FP.dconst1 := ⟨false, 2 ^ 52, -52, by decide +kernel⟩
/-- bits and values -/
theorem mag_val {x : UInt64} {K : Nat} (hK : K ≤ 2046) (h : x.toNat % 2 ^ 63 < K * 2 ^ 52) : fn x ∧ ab (rv x) ≤ (2 : Rat) ^ ((K : Int) - 1023) := by
  have f : fn x := (FP.Core.fin_bits x).mpr (by omega)
  refine ⟨f, ?_⟩
  have za := FP.Core.zmag_bits (a := x) f.ne_nan
  obtain ⟨k1, l1⟩ := FP.Core.units_lt_start (f := FP.Core.b64) (m := x.toNat % 2 ^ 63) (K := K) (by rw [FP.Core.tails_b64]; exact h)
  rw [← za, FP.Core.tails_b64] at l1
  rw [rv_z f, ab_mul, ab_of (Rat.le_of_lt (p2_pos _))]
  have e1 : ab ((FP.Core.zval FP.Core.b64 (FP.Core.val64 x) : Int) : Rat) = (FP.Core.zmag FP.Core.b64 (FP.Core.val64 x) : Nat) := by
    rw [← na_val]
    unfold FP.Core.zval
    rw [FP.Core.natAbs_signed]
  rw [e1]
  have l2 := Rat.natCast_le_natCast.mpr (Nat.le_of_lt l1)
  have l3 := Rat.mul_le_mul_of_nonneg_right l2 (Rat.le_of_lt (p2_pos (-1074)))
  refine Rat.le_trans l3 ?_
  rw [← Nat.pow_add, ← p2_nat, ← p2_add]
  exact p2_le (by omega)
