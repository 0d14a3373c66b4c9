/-! the gathered speeds: the sums and the quotient -/
theorem z_add {x y v : UInt64} (hx : fn x) (hy : fn y) (hv : fn v) : rv v ≤ rv x + rv y ↔ FP.Core.zval FP.Core.b64 (FP.Core.val64 v) ≤ FP.Core.zval FP.Core.b64 (FP.Core.val64 x) + FP.Core.zval FP.Core.b64 (FP.Core.val64 y) := by
  rw [rv_z hx, rv_z hy, rv_z hv]
  have hp := p2_pos (-1074)
  generalize FP.Core.zval FP.Core.b64 (FP.Core.val64 x) = a
  generalize FP.Core.zval FP.Core.b64 (FP.Core.val64 y) = b
  generalize FP.Core.zval FP.Core.b64 (FP.Core.val64 v) = c
  generalize (2 : Rat) ^ (-1074 : Int) = P at hp
  have e : (a : Rat) * P + b * P = ((a + b : Int) : Rat) * P := by
    rw [Rat.intCast_add]
    grind
  rw [e]
  constructor
  · intro h
    exact Rat.intCast_le_intCast.mp (Rat.le_of_mul_le_mul_right h hp)
  · intro h
    exact Rat.mul_le_mul_of_nonneg_right (Rat.intCast_le_intCast.mpr h) (Rat.le_of_lt hp)
theorem add_ge {x y v : UInt64} (hx : fn x) (hy : fn y) (hv : fn v) (hd : fn (FP.dadd x y)) (h : rv v ≤ rv x + rv y) : rv v ≤ rv (FP.dadd x y) := by
  rw [rv_le hv hd, FP.Core.val64_dadd]
  exact FP.Core.sum_ge FP.Core.good_b64 hx hy (FP.Core.val64_fits x) (FP.Core.val64_fits y) (FP.Core.val64_fits v) hv.ne_nan ((z_add hx hy hv).mp h)
theorem num_g3 {m w m2 k : Rat} (h : ab (m2 - (m + w)) ≤ uu * ab (m + w) + tt) (hm : m ≤ 6 * k) (hm0 : 0 ≤ m) (hw : w ≤ 5) (hw0 : 0 ≤ w) (hk : k ≤ 24) (hk0 : 0 ≤ k) : m2 ≤ 6 * (k + 1) := by
  rw [ab_of (show 0 ≤ m + w by grind)] at h
  have a := ab_le.mp h
  have t := tt_u
  clear h
  unfold uu at *
  grind
theorem num_g4 {n n2 p w a m m2 T ka : Rat} (hn : ab n ≤ (8 + 40 * (ka * uu)) * m + T) (hp : ab (p - w * a) ≤ uu * ab (w * a) + tt) (ha : ab a ≤ 8) (hw : 0 ≤ w) (hm : 0 ≤ m) (hn2 : ab (n2 - (n + p)) ≤ uu * ab (n + p) + tt) (hm2 : ab (m2 - (m + w)) ≤ uu * ab (m + w) + tt) (hk1 : 1 ≤ ka) (hk : ka ≤ 25) (hT : 100 * tt ≤ T) : ab n2 ≤ (8 + 40 * ((ka + 1) * uu)) * m2 + 4 * T := by
  have u0 := uu_0
  have t0 := tt_0
  have X0 : 0 ≤ m + w := by grind
  rw [ab_of X0] at hm2
  have wa : ab (w * a) ≤ 8 * w := by
    rw [ab_mul, ab_of hw]
    have := Rat.mul_le_mul_of_nonneg_left ha hw
    grind
  have p1 : ab p ≤ 8 * w + uu * (8 * w) + tt := by
    have w1 := ab_add (p - w * a) (w * a)
    rw [show p - w * a + w * a = p by grind] at w1
    have := Rat.mul_le_mul_of_nonneg_left wa (Rat.le_of_lt u0)
    generalize ab (w * a) = X at *
    generalize uu * X = Y at *
    grind
  have n1 : ab n2 ≤ ab n + ab p + uu * (ab n + ab p) + tt := by
    have w1 := ab_add (n2 - (n + p)) (n + p)
    rw [show n2 - (n + p) + (n + p) = n2 by grind] at w1
    have w2 := ab_add n p
    have := Rat.mul_le_mul_of_nonneg_left w2 (Rat.le_of_lt u0)
    generalize ab (n + p) = X at *
    generalize uu * X = Y at *
    grind
  obtain ⟨C, hC⟩ : ∃ C, C = 8 + 40 * (ka * uu) := ⟨_, rfl⟩
  have c1 : 8 + 40 * uu ≤ C := by
    have := Rat.mul_le_mul_of_nonneg_right hk1 (Rat.le_of_lt u0)
    grind
  have c2 : C ≤ 9 := by
    have := Rat.mul_le_mul_of_nonneg_right hk (Rat.le_of_lt u0)
    have e : 25 * uu ≤ 1 / 40 := by decide +kernel
    grind
  rw [show 8 + 40 * ((ka + 1) * uu) = C + 40 * uu by rw [hC]; grind]
  rw [← hC] at hn
  clear hC hk hk1
  have z1 := Rat.mul_le_mul_of_nonneg_left (ab_le.mp hm2).2 (show 0 ≤ C + 40 * uu by grind)
  have z2 := Rat.mul_le_mul_of_nonneg_right c2 X0
  have z3 := Rat.mul_le_mul_of_nonneg_right c1 hw
  have z4 := Rat.mul_le_mul_of_nonneg_right c2 (Rat.le_of_lt t0)
  have z6 := Rat.mul_nonneg (show 0 ≤ C by grind) X0
  have e1 : (C + 40 * uu) * -(m2 - (m + w)) = C * (m + w) + 40 * uu * (m + w) - (C + 40 * uu) * m2 := by grind
  have e2 : (C + 40 * uu) * (uu * (m + w) + tt) = uu * (C * (m + w)) + 40 * uu * uu * (m + w) + C * tt + 40 * uu * tt := by grind
  rw [e1, e2] at z1
  have e3 : C * (m + w) = C * m + C * w := by grind
  have z5 := Rat.mul_le_mul_of_nonneg_left z2 (Rat.le_of_lt u0)
  rw [e3] at z1 z2 z5 z6
  clear e1 e2 e3 hm2 hn2 hp wa ha
  generalize (C + 40 * uu) * m2 = G at *
  generalize C * m = G1 at *
  generalize C * w = G2 at *
  generalize C * tt = G3 at *
  generalize ab n2 = N2 at *
  generalize ab n = N at *
  generalize ab p = P at *
  unfold uu at *
  grind
theorem num_g5 {n m C T : Rat} (hn : ab n ≤ C * m + T) (hm : 1 / 2 ^ 110 ≤ m) (hT : T * 2 ^ 110 ≤ uu) (hT0 : 0 ≤ T) (hC : C ≤ 8 + 1000 * uu) (hC0 : 0 ≤ C) : ab (n / m) ≤ 8 + 1001 * uu := by
  have m0 : 0 < m := by grind
  have i : 0 < m⁻¹ := Rat.inv_pos.mpr m0
  have e1 : m * m⁻¹ = 1 := by grind
  have i2 : m⁻¹ ≤ 2 ^ 110 := by
    have := Rat.mul_le_mul_of_nonneg_right hm (Rat.le_of_lt i)
    rw [e1] at this
    generalize m⁻¹ = I at *
    grind
  rw [Rat.div_def, ab_mul, ab_of (Rat.le_of_lt i)]
  have a := Rat.mul_le_mul_of_nonneg_right hn (Rat.le_of_lt i)
  have b := Rat.mul_le_mul_of_nonneg_left i2 hT0
  rw [show (C * m + T) * m⁻¹ = C * (m * m⁻¹) + T * m⁻¹ by grind, e1] at a
  generalize ab n * m⁻¹ = X at *
  generalize T * m⁻¹ = Y at *
  generalize T * 2 ^ 110 = Z at *
  clear hn e1 i2 hT0
  grind
theorem num_g6 {q y : Rat} (h : ab (q - y) ≤ uu * ab y + tt) (hy : ab y ≤ 8 + 1001 * uu) : ab q ≤ 8 + 2048 * uu := by
  have w := ab_add (q - y) y
  rw [show q - y + y = q by grind] at w
  have t := tt_u
  generalize ab y = Y at *
  unfold uu at *
  grind
theorem tt_T : ((4 ^ 24 : Nat) : Rat) * (100 * tt) * 2 ^ 110 ≤ uu := by
  have t := tt_le
  have e : ((4 ^ 24 : Nat) : Rat) = 2 ^ 48 := by decide +kernel
  rw [e]
  have u : ty * (2 ^ 48 * 100 * 2 ^ 110) ≤ uu * 2 ^ 30 := by decide +kernel
  have := Rat.mul_le_mul_of_nonneg_right t (show (0 : Rat) ≤ 2 ^ 48 * 100 * 2 ^ 110 by decide +kernel)
  clear e
  grind
theorem g_all {X Y A : Nat → UInt32} {fi fj : UInt64} {np : Nat} (h24 : np ≤ 24) (hp : ∀ k, k < np → (fn (FP.f2d (X k)) ∧ ab (rv (FP.f2d (X k))) ≤ 8) ∧ (fn (FP.f2d (Y k)) ∧ ab (rv (FP.f2d (Y k))) ≤ 8) ∧ (fn (FP.f2d (A k)) ∧ ab (rv (FP.f2d (A k))) ≤ 8)) (hi : fn fi ∧ ab (rv fi) ≤ 8) (hj : fn fj ∧ ab (rv fj) ≤ 8) : ∀ m, m ≤ np → fn (gM X Y fi fj m) ∧ 0 ≤ rv (gM X Y fi fj m) ∧ (rv (gM X Y fi fj m) = 0 ∨ 1 / 2 ^ 110 ≤ rv (gM X Y fi fj m)) ∧ rv (gM X Y fi fj m) ≤ 6 * (m : Rat) ∧ fn (gN X Y A fi fj m) ∧ ab (rv (gN X Y A fi fj m)) ≤ (8 + 40 * (((m : Rat) + 1) * uu)) * rv (gM X Y fi fj m) + ((4 ^ m : Nat) : Rat) * (100 * tt)
  | 0, _ => by
    refine ⟨fn_c0, ?_, Or.inl rv_c0, ?_, fn_c0, ?_⟩
    · show 0 ≤ rv FP.dconst0
      rw [rv_c0]
      decide
    · show rv FP.dconst0 ≤ 6 * ((0 : Nat) : Rat)
      rw [rv_c0]
      decide +kernel
    · show ab (rv FP.dconst0) ≤ (8 + 40 * ((((0 : Nat) : Rat) + 1) * uu)) * rv FP.dconst0 + ((4 ^ 0 : Nat) : Rat) * (100 * tt)
      rw [rv_c0, Rat.mul_zero, Rat.zero_add, ab_of Rat.le_refl]
      have := tt_0
      exact Rat.mul_nonneg Rat.natCast_nonneg (by grind)
  | m + 1, hm => by
    obtain ⟨i1, i2, i3, i4, i5, i6⟩ := g_all h24 hp hi hj m (by omega)
    obtain ⟨px, py, pa⟩ := hp m (by omega)
    obtain ⟨w1, w2, w3⟩ := gW_v (X := X) (Y := Y) (k := m) px py hi hj
    have m24 : (m : Rat) ≤ 24 := nat_rat (show m ≤ 24 by omega)
    have m0 : (0 : Rat) ≤ m := Rat.natCast_nonneg
    have w0 : 0 ≤ rv (gW X Y fi fj m) := by
      rcases w2 with w2 | w2
      · rw [w2]; decide
      · exact Rat.le_trans (by decide +kernel) w2
    have mb : ab (rv (gM X Y fi fj m)) ≤ 2 ^ 100 := by
      rw [ab_of i2]
      refine Rat.le_trans i4 (Rat.le_trans (Rat.mul_le_mul_of_nonneg_left m24 (by decide)) (by decide +kernel))
    have wb : ab (rv (gW X Y fi fj m)) ≤ 2 ^ 100 := by
      rw [ab_of w0]
      exact Rat.le_trans w3 (by decide +kernel)
    have am := add_small i1 w1 (Rat.le_trans mb (by decide +kernel)) (Rat.le_trans wb (by decide +kernel))
    have mp := mul_small w1 pa.1 (Rat.le_trans wb (by decide +kernel)) (Rat.le_trans pa.2 (by decide +kernel))
    have pb : ab (rv (FP.dmul (gW X Y fi fj m) (FP.f2d (A m)))) ≤ 2 ^ 240 := by
      have a := rd_le mp
      rw [ab_mul] at a
      have b := mul_le2 wb pa.2 (ab_nn _) (by decide)
      generalize ab (rv (gW X Y fi fj m)) * ab (rv (FP.f2d (A m))) = Z at *
      generalize ab (rv (FP.dmul (gW X Y fi fj m) (FP.f2d (A m)))) = Z2 at *
      clear i6 hp am mp
      grind
    have nb : ab (rv (gN X Y A fi fj m)) ≤ 2 ^ 240 := by
      refine Rat.le_trans i6 ?_
      have c1 : (8 + 40 * (((m : Rat) + 1) * uu)) ≤ 9 := by
        have := Rat.mul_le_mul_of_nonneg_right (show (m : Rat) + 1 ≤ 25 by clear hp; grind) (Rat.le_of_lt uu_0)
        have e : 25 * uu ≤ 1 / 40 := by decide +kernel
        clear hp i6
        grind
      rw [ab_of i2] at mb
      have c2 := mul_le2 c1 mb (by
        have := Rat.mul_nonneg (show 0 ≤ (m : Rat) + 1 by clear hp; grind) (Rat.le_of_lt uu_0)
        clear hp i6
        grind) (by decide +kernel)
      have c3 : ((4 ^ m : Nat) : Rat) * (100 * tt) ≤ 1 := by
        have := tt_T
        have t0 := tt_0
        have q : ((4 ^ m : Nat) : Rat) ≤ ((4 ^ 24 : Nat) : Rat) := nat_rat (Nat.pow_le_pow_right (by decide) (show m ≤ 24 by omega))
        have q2 := Rat.mul_le_mul_of_nonneg_right q (show 0 ≤ 100 * tt by clear hp; grind)
        have t1 := tt_u
        have e : ((4 ^ 24 : Nat) : Rat) * (100 * (uu * (1 / 2 ^ 30))) ≤ 1 := by decide +kernel
        have q3 := Rat.mul_le_mul_of_nonneg_left (Rat.mul_le_mul_of_nonneg_left t1 (show (0 : Rat) ≤ 100 by decide)) (show (0 : Rat) ≤ ((4 ^ 24 : Nat) : Rat) by exact Rat.natCast_nonneg)
        exact Rat.le_trans q2 (Rat.le_trans q3 e)
      generalize ((4 ^ m : Nat) : Rat) * (100 * tt) = Z1 at *
      generalize (8 + 40 * (((m : Rat) + 1) * uu)) * rv (gM X Y fi fj m) = Z2 at *
      clear hp i6 am mp pb
      grind
    have an := add_small i5 mp.1 nb pb
    have ec : ((m + 1 : Nat) : Rat) = (m : Rat) + 1 := by rw [Rat.natCast_add]; rfl
    have e4 : ((4 ^ (m + 1) : Nat) : Rat) * (100 * tt) = 4 * (((4 ^ m : Nat) : Rat) * (100 * tt)) := by
      rw [Nat.pow_succ, Rat.natCast_mul]
      have : ((4 : Nat) : Rat) = 4 := rfl
      rw [this]
      generalize ((4 ^ m : Nat) : Rat) = Z
      grind
    have g1 := add_ge i1 w1 i1 am.1 (by generalize rv (gM X Y fi fj m) = Z at *; generalize rv (gW X Y fi fj m) = Z2 at *; clear hp i6 am mp pb an nb e4; grind)
    have g2 := add_ge i1 w1 w1 am.1 (by generalize rv (gM X Y fi fj m) = Z at *; generalize rv (gW X Y fi fj m) = Z2 at *; clear hp i6 am mp pb an nb e4; grind)
    refine ⟨am.1, Rat.le_trans i2 g1, ?_, ?_, an.1, ?_⟩
    · rcases i3 with i3 | i3
      · rcases w2 with w2 | w2
        · exact Or.inl (rd_0 am (by rw [i3, w2]; decide +kernel))
        · exact Or.inr (Rat.le_trans w2 g2)
      · exact Or.inr (Rat.le_trans i3 g1)
    · rw [ec]
      exact num_g3 am.2 i4 i2 w3 w0 m24 m0
    · rw [ec, e4]
      refine num_g4 i6 mp.2 pa.2 w0 i2 an.2 am.2 (by clear hp i6 am mp pb an nb e4; grind) (by clear hp i6 am mp pb an nb e4; grind) ?_
      have q : ((1 : Nat) : Rat) ≤ ((4 ^ m : Nat) : Rat) := nat_rat (Nat.one_le_pow _ _ (by decide))
      have t0 := tt_0
      have := Rat.mul_le_mul_of_nonneg_right q (show 0 ≤ 100 * tt by clear hp; grind)
      have e1 : ((1 : Nat) : Rat) = 1 := rfl
      rw [e1, Rat.one_mul] at this
      exact this
theorem gF_v {X Y A : Nat → UInt32} {fi fj : UInt64} {np : Nat} (h24 : np ≤ 24) (hp : ∀ k, k < np → (fn (FP.f2d (X k)) ∧ ab (rv (FP.f2d (X k))) ≤ 8) ∧ (fn (FP.f2d (Y k)) ∧ ab (rv (FP.f2d (Y k))) ≤ 8) ∧ (fn (FP.f2d (A k)) ∧ ab (rv (FP.f2d (A k))) ≤ 8)) (hi : fn fi ∧ ab (rv fi) ≤ 8) (hj : fn fj ∧ ab (rv fj) ≤ 8) : fn (gF X Y A fi fj np) ∧ ab (rv (gF X Y A fi fj np)) ≤ 8 + 2048 * uu := by
  obtain ⟨i1, i2, i3, i4, i5, i6⟩ := g_all h24 hp hi hj np (Nat.le_refl np)
  unfold gF
  by_cases h : cvd (gM X Y fi fj np) FP.dconst0 .l ≤ 0
  · rw [if_pos h, rv_c0, ab_of Rat.le_refl]
    exact ⟨fn_c0, by decide +kernel⟩
  · rw [if_neg h]
    have l : ¬ rv (gM X Y fi fj np) ≤ rv FP.dconst0 := fun z => h ((cv_le i1 fn_c0 .l).mpr z)
    rw [rv_c0] at l
    have m1 : 1 / 2 ^ 110 ≤ rv (gM X Y fi fj np) := by
      rcases i3 with i3 | i3
      · rw [i3] at l
        exact absurd Rat.le_refl l
      · exact i3
    have n24 : (np : Rat) ≤ 24 := nat_rat h24
    have n0 : (0 : Rat) ≤ np := Rat.natCast_nonneg
    have t0 := tt_0
    have q : ((4 ^ np : Nat) : Rat) ≤ ((4 ^ 24 : Nat) : Rat) := nat_rat (Nat.pow_le_pow_right (by decide) h24)
    have q2 := Rat.mul_le_mul_of_nonneg_right q (show 0 ≤ 100 * tt by clear hp i6; grind)
    have k := num_g5 i6 m1 (Rat.le_trans (Rat.mul_le_mul_of_nonneg_right q2 (by decide +kernel)) tt_T) (Rat.mul_nonneg Rat.natCast_nonneg (by clear hp i6; grind)) (by
      have := Rat.mul_le_mul_of_nonneg_right (show (np : Rat) + 1 ≤ 25 by clear hp i6; grind) (Rat.le_of_lt uu_0)
      generalize ((np : Rat) + 1) * uu = Z at *
      clear hp i6
      grind) (by
      have := Rat.mul_nonneg (show 0 ≤ (np : Rat) + 1 by clear hp i6; grind) (Rat.le_of_lt uu_0)
      generalize ((np : Rat) + 1) * uu = Z at *
      clear hp i6
      grind)
    have r := r_div i5 i1 (fun z => by rw [z] at m1; exact absurd m1 (by decide +kernel)) (Rat.le_trans k (Rat.le_trans (by decide +kernel) big_ge))
    exact ⟨r.1, num_g6 r.2 k⟩
