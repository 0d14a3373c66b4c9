/-! making z, rounded: the two ways as fixed forms -/
theorem fwR_at (r mk old : Nat → UInt64) (tk : Nat → Int32) {d : Nat} : ∀ n, d < n → fwR r mk old tk n d = fwV r mk (fwR r mk old tk d) tk d
  | 0, h => absurd h (by omega)
  | n + 1, h => by
    rw [fwR, vu_at]
    by_cases e : d = n
    · rw [if_pos e, e]
    · rw [if_neg e, fwR_at r mk old tk n (by omega)]
theorem bwR_at (h mk old : Nat → UInt64) (tk : Nat → Int32) {d : Nat} (hd : d < 36) : ∀ n, n ≤ 36 → 35 - d < n → bwR h mk old tk n d = bwV h mk (bwR h mk old tk (35 - d)) tk d
  | 0, _, k => absurd k (by omega)
  | n + 1, hn, k => by
    rw [bwR, vu_at]
    by_cases e : d = 35 - n
    · rw [if_pos e, show 35 - d = n by omega, e]
    · rw [if_neg e, bwR_at h mk old tk hd n (by omega) (by omega)]
theorem fwV_congr {r mk m1 m2 : Nat → UInt64} {tk : Nat → Int32} {c : Nat} (hc : c < 36) (h : ∀ w, (w = 0 ∨ w = 2) → nbT tk c w → m1 (nbN c w) = m2 (nbN c w)) : fwV r mk m1 tk c = fwV r mk m2 tk c ∧ (fwOk r mk m2 tk c → fwOk r mk m1 tk c) := by
  have k0 : ¬ nearI tk c 0 < 0 → m1 (nearI tk c 0).toNatClampNeg = m2 (nearI tk c 0).toNatClampNeg := fun z => by
    have g := near_f hc (by omega) z
    rw [(nb_pos hc (by omega) g).2.2.1]
    exact h 0 (Or.inl rfl) g
  have k2 : ¬ nearI tk c 2 < 0 → m1 (nearI tk c 2).toNatClampNeg = m2 (nearI tk c 2).toNatClampNeg := fun z => by
    have g := near_f hc (by omega) z
    rw [(nb_pos hc (by omega) g).2.2.1]
    exact h 2 (Or.inr rfl) g
  have e1 : fw1 r mk m1 tk c = fw1 r mk m2 tk c := by
    unfold fw1
    split
    · rfl
    · rename_i z
      rw [k0 z]
  have e2 : fw2 r mk m1 tk c = fw2 r mk m2 tk c := by
    unfold fw2
    rw [e1]
    split
    · rfl
    · rename_i z
      rw [k2 z]
  refine ⟨by unfold fwV; rw [e2], fun ⟨a, b⟩ => ⟨fun z => ?_, fun z => ?_⟩⟩
  · rw [k0 z, e1]
    exact a z
  · rw [k2 z, e2]
    exact b z
theorem bwV_congr {h mk m1 m2 : Nat → UInt64} {tk : Nat → Int32} {c : Nat} (hc : c < 36) (hh : ∀ w, (w = 1 ∨ w = 3) → nbT tk c w → m1 (nbN c w) = m2 (nbN c w)) : bwV h mk m1 tk c = bwV h mk m2 tk c ∧ (bwOk h mk m2 tk c → bwOk h mk m1 tk c) := by
  have k0 : ¬ nearI tk c 1 < 0 → m1 (nearI tk c 1).toNatClampNeg = m2 (nearI tk c 1).toNatClampNeg := fun z => by
    have g := near_f hc (by omega) z
    rw [(nb_pos hc (by omega) g).2.2.1]
    exact hh 1 (Or.inl rfl) g
  have k2 : ¬ nearI tk c 3 < 0 → m1 (nearI tk c 3).toNatClampNeg = m2 (nearI tk c 3).toNatClampNeg := fun z => by
    have g := near_f hc (by omega) z
    rw [(nb_pos hc (by omega) g).2.2.1]
    exact hh 3 (Or.inr rfl) g
  have e1 : bw1 h mk m1 tk c = bw1 h mk m2 tk c := by
    unfold bw1
    split
    · rfl
    · split
      · rfl
      · rename_i z
        rw [k0 z]
  have e2 : bwV h mk m1 tk c = bwV h mk m2 tk c := by
    unfold bwV
    rw [e1]
    split
    · rfl
    · split
      · rfl
      · rename_i z
        rw [k2 z]
  refine ⟨e2, fun ⟨a, b, d⟩ => ⟨a, fun y z => ?_, fun y z => ?_⟩⟩
  · rw [k0 z, e1]
    exact b y z
  · rw [k2 z, e2]
    exact d y z
theorem fwR_fix {r mk old : Nat → UInt64} {tk : Nat → Int32} {c : Nat} (hc : c < 36) : fwR r mk old tk 36 c = fwV r mk (fwR r mk old tk 36) tk c ∧ (fwOk r mk (fwR r mk old tk 36) tk c → fwOk r mk (fwR r mk old tk c) tk c) := by
  have k : ∀ d, d < c → fwR r mk old tk c d = fwR r mk old tk 36 d := fun d hd => by rw [fwR_at r mk old tk c hd, fwR_at r mk old tk 36 (by omega)]
  obtain ⟨a, b⟩ := fwV_congr (r := r) (mk := mk) (m1 := fwR r mk old tk c) (m2 := fwR r mk old tk 36) hc (fun w hw h => k _ (nb_lt hc hw h.1))
  exact ⟨by rw [fwR_at r mk old tk 36 hc, a], b⟩
theorem bwR_fix {h mk old : Nat → UInt64} {tk : Nat → Int32} {c : Nat} (hc : c < 36) : bwR h mk old tk 36 c = bwV h mk (bwR h mk old tk 36) tk c ∧ (bwOk h mk (bwR h mk old tk 36) tk c → bwOk h mk (bwR h mk old tk (35 - c)) tk c) := by
  have k : ∀ d, c < d → d < 36 → bwR h mk old tk (35 - c) d = bwR h mk old tk 36 d := fun d hd h36 => by rw [bwR_at h mk old tk h36 (35 - c) (by omega) (by omega), bwR_at h mk old tk h36 36 (by omega) (by omega)]
  obtain ⟨a, b⟩ := bwV_congr (h := h) (mk := mk) (m1 := bwR h mk old tk (35 - c)) (m2 := bwR h mk old tk 36) hc (fun w hw g => k _ (nb_gt hc hw g.1) (nb_36 hc (by omega) g.1))
  exact ⟨by rw [bwR_at h mk old tk hc 36 (by omega) (by omega), a], b⟩
/-- no NaN, and the row, of MAKING z, over the fixed forms -/
theorem mz_fix (S : mS) (h1 : ∀ c, c < 36 → fwOk (mD S 17) (mD S 15) (mkH S 36) (mA S 11) c) (h2 : ∀ c, c < 36 → bwOk (mkH S 36) (mD S 15) (mkZr S 36) (mA S 11) c) : mzOk S := by
  refine ⟨fun c hc => (fwR_fix hc).2 (h1 c hc), fun n hn => ?_⟩
  have := (bwR_fix (h := mkH S 36) (mk := mD S 15) (old := mD S 18) (tk := mA S 11) (c := 35 - n) (by omega)).2 (h2 (35 - n) (by omega))
  rw [show 35 - (35 - n) = n by omega] at this
  exact this
/-- a quotient added -/
theorem add_div {v x D : UInt64} {A X : Rat} (hv : fn v) (hx : fn x) (hD : fn D) (h4 : 1 / 4 ≤ rv D) (hA : ab (rv v) ≤ A) (hX : ab (rv x / rv D) ≤ X) (hA2 : A ≤ 2 ^ 110) (hX2 : X ≤ 2 ^ 110) (hx2 : ab (rv x) ≤ 2 ^ 110) : fn (FP.ddiv x D) ∧ fn (FP.dadd v (FP.ddiv x D)) ∧ ab (rv (FP.dadd v (FP.ddiv x D)) - (rv v + rv x / rv D)) ≤ uu * (A + 3 * X) + 3 * tt := by
  obtain ⟨q1, q2⟩ := div_small hx hD h4 (Rat.le_trans hx2 (by decide +kernel))
  have q3 := rd_le q1
  obtain ⟨a1, a2⟩ := add_small hv q1.1 (Rat.le_trans hA (Rat.le_trans hA2 (by decide +kernel))) (by grind)
  refine ⟨q1.1, a1, ?_⟩
  have q4 := q1.2
  have t0 := tt_0
  have t1 := tt_u
  generalize rv (FP.ddiv x D) = q at *
  generalize rv x / rv D = y at *
  generalize rv (FP.dadd v (FP.ddiv x D)) = s at *
  generalize rv v = w at *
  have b1 := ab_add (w + y) (q - y)
  have b2 := ab_add w y
  have b3 := ab_add (s - (w + q)) (q - y)
  rw [show w + y + (q - y) = w + q by grind] at b1
  rw [show s - (w + q) + (q - y) = s - (w + y) by grind] at b3
  generalize ab (s - (w + y)) = Z1 at *
  generalize ab (s - (w + q)) = Z2 at *
  generalize ab (q - y) = Z3 at *
  generalize ab (w + q) = Z4 at *
  generalize ab (w + y) = Z5 at *
  generalize ab w = Z6 at *
  have := ab_nn y
  generalize ab y = Z7 at *
  clear q1 q2 q3 hA2 hX2 hx2
  unfold uu at *
  grind
theorem tt_R {R : Rat} (h : 1 / 2 ^ 60 ≤ R) : 1000 * tt ≤ uu * R / 1000 := by
  have a := tt_le
  have b := tt_0
  have e : (1 : Rat) / 2 ^ 60 * uu = 2 ^ 137 * ty := by decide +kernel
  have m := Rat.mul_le_mul_of_nonneg_left h (show 0 ≤ uu by decide +kernel)
  have d := ty_0
  generalize uu * R = Y at *
  grind
