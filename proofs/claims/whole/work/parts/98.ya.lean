/-! making z, rounded: the first way -/
abbrev MkH (tk : Nat → Int32) (mk : Nat → UInt64) : Prop := ∀ c, c < 36 → tk c ≠ 0 → fn (mk c) ∧ 1 / 4 ≤ rv (mk c) ∧ ind (nbT tk c 1) + ind (nbT tk c 3) ≤ rv (mk c) ∧ rv (mk c) ≤ 4
theorem g_rk : ∀ c : Fin 36, ∀ w : Fin 4, nbI c.val w.val = true → ((w.val = 0 ∨ w.val = 2) → nbN c.val w.val % 6 + nbN c.val w.val / 6 + 1 = c.val % 6 + c.val / 6) ∧ ((w.val = 1 ∨ w.val = 3) → nbN c.val w.val % 6 + nbN c.val w.val / 6 = c.val % 6 + c.val / 6 + 1) := by decide +kernel
theorem mkH_b {tk : Nat → Int32} {mk : Nat → UInt64} (hM : MkH tk mk) {c w : Nat} (hc : c < 36) (ht : tk c ≠ 0) (hw : w = 0 ∨ w = 2) (h : nbT tk c w) : 1 ≤ rv (mk (nbN c w)) := by
  have := (hM _ (nb_36 hc (by omega) h.1) h.2).2.2.1
  have := ru_1 hc ht hw h
  grind
theorem div_le1 {x D X : Rat} (hD : 1 ≤ D) (h : ab x ≤ X) : ab (x / D) ≤ X := by
  obtain ⟨a, b⟩ := one_div hD
  rw [show x / D = x * (1 / D) by grind, ab_mul, ab_of a]
  have := Rat.mul_le_mul_of_nonneg_left b (ab_nn x)
  grind
theorem div_le4 {x D X : Rat} (hD : 1 / 4 ≤ D) (h : ab x ≤ X) : ab (x / D) ≤ 4 * X := by
  obtain ⟨a, b⟩ := inv4 hD
  rw [show x / D = x * (1 / D) by grind, ab_mul, ab_of a]
  have := Rat.mul_le_mul_of_nonneg_left b (ab_nn x)
  grind
/-- one step of the first way: q is h / maker of a neighbour, if it takes part -/
theorem fw_st {tk : Nat → Int32} {mk h : Nat → UInt64} {c w : Nat} {v : UInt64} {A X : Rat} (hM : MkH tk mk) (hc : c < 36) (hw : w < 4) (hv : fn v) (hA : ab (rv v) ≤ A) (hA2 : A ≤ 2 ^ 110) (hX0 : 0 ≤ X) (hX2 : X ≤ 2 ^ 110) (hh : nbT tk c w → fn (h (nbN c w)) ∧ ab (rv (h (nbN c w))) ≤ 2 ^ 110 ∧ ab (rv (h (nbN c w)) / rv (mk (nbN c w))) ≤ X) : (¬ nearI tk c w < 0 → vf_n64 (FP.ddiv (h (nearI tk c w).toNatClampNeg) (mk (nearI tk c w).toNatClampNeg))) ∧ fn (if nearI tk c w < 0 then v else FP.dadd v (FP.ddiv (h (nearI tk c w).toNatClampNeg) (mk (nearI tk c w).toNatClampNeg))) ∧ ab (rv (if nearI tk c w < 0 then v else FP.dadd v (FP.ddiv (h (nearI tk c w).toNatClampNeg) (mk (nearI tk c w).toNatClampNeg))) - (rv v + tm4 tk (fun p => rv (h p) / rv (mk p)) c w)) ≤ uu * (A + 3 * X) + 3 * tt ∧ ab (tm4 tk (fun p => rv (h p) / rv (mk p)) c w) ≤ X := by
  have u0 := uu_0
  have t0 := tt_0
  unfold tm4
  rcases Classical.em (nbT tk c w) with g | g
  · obtain ⟨-, n2, n3, n4⟩ := nb_pos hc hw g
    obtain ⟨h1, h2, h3⟩ := hh g
    obtain ⟨m1, m2, -, -⟩ := hM _ n4 g.2
    obtain ⟨a1, a2, a3⟩ := add_div hv h1 m1 m2 hA h3 hA2 hX2 h2
    rw [if_neg n2, n3, ind_t g, Rat.one_mul]
    exact ⟨fun _ => n64_fn a1, a2, a3, h3⟩
  · have n2 := nb_neg hc hw g
    rw [if_pos n2, ind_f g, Rat.zero_mul, show rv v - (rv v + 0) = 0 by grind, ab_of Rat.le_refl]
    refine ⟨fun z => absurd n2 z, hv, ?_, hX0⟩
    have := Rat.mul_nonneg (Rat.le_of_lt u0) (show 0 ≤ A + 3 * X by have := ab_nn (rv v); grind)
    grind
theorem num_f1 {v1 r T0 R Y : Rat} (h1 : ab (v1 - (r + T0)) ≤ uu * (R + 3 * Y) + 3 * tt) (hr : ab r ≤ R) (hT : ab T0 ≤ Y) (t1 : 1000 * tt ≤ uu * R / 1000) (hR : 0 < R) (hY : 0 ≤ Y) : ab v1 ≤ 2 * (R + Y) := by
  have w1 := ab_add (v1 - (r + T0)) (r + T0)
  have w2 := ab_add r T0
  rw [show v1 - (r + T0) + (r + T0) = v1 by grind] at w1
  have := tt_0
  unfold uu at *
  grind
theorem num_f2 {v1 v2 r T0 T2 R Y : Rat} (h1 : ab (v1 - (r + T0)) ≤ uu * (R + 3 * Y) + 3 * tt) (h2 : ab (v2 - (v1 + T2)) ≤ uu * (2 * (R + Y) + 3 * Y) + 3 * tt) (t1 : 1000 * tt ≤ uu * R / 1000) (hR : 0 < R) (hY : 0 ≤ Y) : ab (v2 - (r + T0 + T2)) ≤ 4 * (uu * R) + 8 * (uu * Y) := by
  have w := ab_add (v1 - (r + T0)) (v2 - (v1 + T2))
  rw [show v1 - (r + T0) + (v2 - (v1 + T2)) = v2 - (r + T0 + T2) by grind] at w
  have := tt_0
  unfold uu at *
  grind
theorem num_f3 {v2 r T0 T2 R Y : Rat} (h1 : ab (v2 - (r + T0 + T2)) ≤ 4 * (uu * R) + 8 * (uu * Y)) (hr : ab r ≤ R) (hT : ab T0 ≤ Y) (hT2 : ab T2 ≤ Y) (hR : 0 < R) (hY : 0 ≤ Y) (hY2 : Y ≤ 16384 * R) : ab v2 ≤ 2 * Y + 3 / 2 * R := by
  have w1 := ab_add (v2 - (r + T0 + T2)) (r + T0 + T2)
  have w2 := ab_add (r + T0) T2
  have w3 := ab_add r T0
  rw [show v2 - (r + T0 + T2) + (r + T0 + T2) = v2 by grind] at w1
  unfold uu at *
  grind
theorem num_f4 {R Y : Rat} (hR2 : R ≤ 2 ^ 80) (hY2 : Y ≤ 16384 * R) : R ≤ 2 ^ 110 ∧ Y ≤ 2 ^ 110 ∧ 2 * (R + Y) ≤ 2 ^ 110 := by grind
/-- the first way at one cell -/
theorem fw_cell {tk : Nat → Int32} {r mk h : Nat → UInt64} {c : Nat} {R b : Rat} (hM : MkH tk mk) (hc : c < 36) (hr : fn (r c)) (hrR : ab (rv (r c)) ≤ R) (hR1 : 1 / 2 ^ 60 ≤ R) (hR2 : R ≤ 2 ^ 80) (hb0 : 0 ≤ b) (hb : b ≤ 16384) (hh : ∀ w, (w = 0 ∨ w = 2) → nbT tk c w → fn (h (nbN c w)) ∧ ab (rv (h (nbN c w))) ≤ 2 ^ 110 ∧ ab (rv (h (nbN c w)) / rv (mk (nbN c w))) ≤ b * R) : fwOk r mk h tk c ∧ fn (fw2 r mk h tk c) ∧ ab (rv (fw2 r mk h tk c) - (rv (r c) + tm4 tk (fun p => rv (h p) / rv (mk p)) c 0 + tm4 tk (fun p => rv (h p) / rv (mk p)) c 2)) ≤ uu * ((4 + 8 * b) * R) ∧ ab (rv (fw2 r mk h tk c)) ≤ (2 * b + 3 / 2) * R := by
  have hR0 : 0 < R := by
    clear hh
    grind
  have bR0 := Rat.mul_nonneg hb0 (Rat.le_of_lt hR0)
  have bR2 := Rat.mul_le_mul_of_nonneg_right hb (Rat.le_of_lt hR0)
  have t1 := tt_R hR1
  generalize hY : b * R = Y at *
  obtain ⟨k1, k2, k3⟩ := num_f4 hR2 bR2
  obtain ⟨a1, a2, a3, a4⟩ := fw_st (w := 0) hM hc (by omega) hr hrR k1 bR0 k2 (hh 0 (Or.inl rfl))
  have e1 : fw1 r mk h tk c = (if nearI tk c 0 < 0 then r c else FP.dadd (r c) (FP.ddiv (h (nearI tk c 0).toNatClampNeg) (mk (nearI tk c 0).toNatClampNeg))) := rfl
  rw [← e1] at a2 a3
  obtain ⟨b1, b2, b3, b4⟩ := fw_st (w := 2) hM hc (by omega) a2 (num_f1 a3 hrR a4 t1 hR0 bR0) k3 bR0 k2 (hh 2 (Or.inr rfl))
  have e2 : fw2 r mk h tk c = (if nearI tk c 2 < 0 then fw1 r mk h tk c else FP.dadd (fw1 r mk h tk c) (FP.ddiv (h (nearI tk c 2).toNatClampNeg) (mk (nearI tk c 2).toNatClampNeg))) := rfl
  rw [← e2] at b2 b3
  have key := num_f2 a3 b3 t1 hR0 bR0
  refine ⟨⟨fun z => ⟨a1 z, n64_fn a2⟩, fun z => ⟨b1 z, n64_fn b2⟩⟩, b2, ?_, ?_⟩
  · rw [show uu * ((4 + 8 * b) * R) = 4 * (uu * R) + 8 * (uu * (b * R)) by grind, hY]
    exact key
  · rw [show (2 * b + 3 / 2) * R = 2 * (b * R) + 3 / 2 * R by grind, hY]
    exact num_f3 key hrR a4 b4 hR0 bR0 bR2
def hbd : Nat → Rat
  | 0 => 3 / 2
  | n + 1 => 2 * hbd n + 3 / 2
theorem hbd_le : ∀ n : Fin 11, 0 ≤ hbd n.val ∧ hbd n.val ≤ 4096 := by decide +kernel
theorem fw_all {tk : Nat → Int32} {r mk h : Nat → UInt64} {R : Rat} (hM : MkH tk mk) (hfix : ∀ c, c < 36 → h c = fwV r mk h tk c) (hr : ∀ c, c < 36 → fn (r c) ∧ ab (rv (r c)) ≤ R) (hR1 : 1 / 2 ^ 60 ≤ R) (hR2 : R ≤ 2 ^ 80) : ∀ n c, c < 36 → tk c ≠ 0 → c % 6 + c / 6 = n → fn (h c) ∧ ab (rv (h c)) ≤ hbd n * R
  | 0, c, hc, ht, hn => by
    have e : h c = fw2 r mk h tk c := by
      rw [hfix c hc]
      unfold fwV
      rw [if_neg ht]
    obtain ⟨-, f, -, g⟩ := fw_cell (h := h) (b := 0) hM hc (hr c hc).1 (hr c hc).2 hR1 hR2 Rat.le_refl (by decide) (fun w hw k => by
      have := (g_rk ⟨c, hc⟩ ⟨w, by omega⟩ k.1).1 hw
      have : nbN c w % 6 + nbN c w / 6 + 1 = c % 6 + c / 6 := this
      exact absurd this (by omega))
    rw [e]
    exact ⟨f, by show _ ≤ 3 / 2 * R; grind⟩
  | n + 1, c, hc, ht, hn => by
    have e : h c = fw2 r mk h tk c := by
      rw [hfix c hc]
      unfold fwV
      rw [if_neg ht]
    have hb := hbd_le ⟨n, by omega⟩
    have hb0 : 0 ≤ hbd n := hb.1
    have hb1 : hbd n ≤ 4096 := hb.2
    obtain ⟨-, f, -, g⟩ := fw_cell (h := h) (b := hbd n) hM hc (hr c hc).1 (hr c hc).2 hR1 hR2 hb0 (by grind) (fun w hw k => by
      have l := nb_36 hc (by omega) k.1
      obtain ⟨i1, i2⟩ := fw_all hM hfix hr hR1 hR2 n (nbN c w) l k.2 (by
        have := (g_rk ⟨c, hc⟩ ⟨w, by omega⟩ k.1).1 hw
        have : nbN c w % 6 + nbN c w / 6 + 1 = c % 6 + c / 6 := this
        omega)
      refine ⟨i1, ?_, div_le1 (mkH_b hM hc ht hw k) i2⟩
      have := Rat.mul_le_mul_of_nonneg_right hb1 (show 0 ≤ R by grind)
      grind)
    rw [e]
    exact ⟨f, g⟩
theorem fw_fin {tk : Nat → Int32} {r mk h : Nat → UInt64} {R : Rat} (hM : MkH tk mk) (hfix : ∀ c, c < 36 → h c = fwV r mk h tk c) (hr : ∀ c, c < 36 → fn (r c) ∧ ab (rv (r c)) ≤ R) (hR1 : 1 / 2 ^ 60 ≤ R) (hR2 : R ≤ 2 ^ 80) {c : Nat} (hc : c < 36) : fwOk r mk h tk c ∧ fn (h c) ∧ ab (rv (h c)) ≤ 4096 * R ∧ (tk c ≠ 0 → ab (rv (h c) - (rv (r c) + tm4 tk (fun p => rv (h p) / rv (mk p)) c 0 + tm4 tk (fun p => rv (h p) / rv (mk p)) c 2)) ≤ uu * (32772 * R)) ∧ (tk c = 0 → h c = FP.dconst0) := by
  have hall : ∀ d, d < 36 → tk d ≠ 0 → fn (h d) ∧ ab (rv (h d)) ≤ 4096 * R := fun d hd ht => by
    obtain ⟨a, b⟩ := fw_all hM hfix hr hR1 hR2 (d % 6 + d / 6) d hd ht rfl
    have k := (hbd_le ⟨d % 6 + d / 6, by omega⟩).2
    have k : hbd (d % 6 + d / 6) ≤ 4096 := k
    have := Rat.mul_le_mul_of_nonneg_right k (show 0 ≤ R by grind)
    exact ⟨a, by grind⟩
  have hg : ∀ w, (w = 0 ∨ w = 2) → nbT tk c w → fn (h (nbN c w)) ∧ ab (rv (h (nbN c w))) ≤ 2 ^ 110 ∧ ab (rv (h (nbN c w)) / rv (mk (nbN c w))) ≤ 16384 * R := fun w hw k => by
    have l := nb_36 hc (by omega) k.1
    obtain ⟨i1, i2⟩ := hall _ l k.2
    have := div_le4 (hM _ l k.2).2.1 i2
    exact ⟨i1, by grind, by grind⟩
  rcases Classical.em (tk c = 0) with ht | ht
  · have e : h c = FP.dconst0 := by
      rw [hfix c hc]
      unfold fwV
      rw [if_pos ht]
    refine ⟨(fw_cell (h := h) (b := 16384) hM hc (hr c hc).1 (hr c hc).2 hR1 hR2 (by decide) Rat.le_refl hg).1, ?_, ?_, fun z => absurd ht z, fun _ => e⟩
    · rw [e]; exact fn_c0
    · rw [e, rv_c0, ab_of Rat.le_refl]
      grind
  · have e : h c = fw2 r mk h tk c := by
      rw [hfix c hc]
      unfold fwV
      rw [if_neg ht]
    obtain ⟨i1, i2⟩ := hall c hc ht
    obtain ⟨k1, -, k3, -⟩ := fw_cell (h := h) (b := 4096) hM hc (hr c hc).1 (hr c hc).2 hR1 hR2 (by decide) (by decide) (fun w hw k => by
      have l := nb_36 hc (by omega) k.1
      obtain ⟨i1, i2⟩ := hall _ l k.2
      exact ⟨i1, (hg w hw k).2.1, div_le1 (mkH_b hM hc ht hw k) i2⟩)
    refine ⟨k1, i1, i2, fun _ => ?_, fun z => absurd z ht⟩
    rw [← e] at k3
    refine Rat.le_trans k3 ?_
    have := uu_0
    grind
