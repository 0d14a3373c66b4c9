/-! making z, rounded: all cells; what M z is -/
theorem bw_all {tk : Nat → Int32} {h mk z : Nat → UInt64} {R : Rat} (hM : MkH tk mk) (hfix : ∀ c, c < 36 → z c = bwV h mk z tk c) (hh : ∀ c, c < 36 → fn (h c) ∧ ab (rv (h c)) ≤ 4096 * R) (hR1 : 1 / 2 ^ 60 ≤ R) (hR2 : R ≤ 2 ^ 80) : ∀ n c, c < 36 → tk c ≠ 0 → c % 6 + c / 6 + n = 10 → fn (z c) ∧ ab (rv (z c)) ≤ 17000 * ((n : Rat) + 1) * R
  | 0, c, hc, ht, hn => by
    obtain ⟨-, f, -, g⟩ := bw_cell (z := z) (Z := 0) hM hc ht (hh c hc).1 (hh c hc).2 hR1 hR2 Rat.le_refl (by grind) (fun w hw k => by
      have l := nb_36 hc (by omega) k.1
      have := (g_rk ⟨c, hc⟩ ⟨w, by omega⟩ k.1).2 hw
      have : nbN c w % 6 + nbN c w / 6 = c % 6 + c / 6 + 1 := this
      exact absurd this (by omega))
    rw [← hfix c hc] at f g
    refine ⟨f, ?_⟩
    have : ((0 : Nat) : Rat) = 0 := rfl
    rw [this]
    grind
  | n + 1, c, hc, ht, hn => by
    have hn10 : (n : Rat) ≤ 9 := nat_rat (show n ≤ 9 by omega)
    have hn0 : (0 : Rat) ≤ n := Rat.natCast_nonneg
    have hR0 : 0 ≤ R := by grind
    have s1 := Rat.mul_le_mul_of_nonneg_right hn10 hR0
    have s0 := Rat.mul_nonneg hn0 hR0
    obtain ⟨-, f, -, g⟩ := bw_cell (z := z) (Z := 17000 * ((n : Rat) + 1) * R) hM hc ht (hh c hc).1 (hh c hc).2 hR1 hR2 (by grind) (by grind) (fun w hw k => by
      have l := nb_36 hc (by omega) k.1
      exact bw_all hM hfix hh hR1 hR2 n (nbN c w) l k.2 (by
        have := (g_rk ⟨c, hc⟩ ⟨w, by omega⟩ k.1).2 hw
        have : nbN c w % 6 + nbN c w / 6 = c % 6 + c / 6 + 1 := this
        omega))
    rw [← hfix c hc] at f g
    refine ⟨f, ?_⟩
    have ec : ((n + 1 : Nat) : Rat) = (n : Rat) + 1 := by rw [Rat.natCast_add]; rfl
    rw [ec]
    grind
theorem bw_fin {tk : Nat → Int32} {h mk z : Nat → UInt64} {R : Rat} (hM : MkH tk mk) (hfix : ∀ c, c < 36 → z c = bwV h mk z tk c) (hh : ∀ c, c < 36 → fn (h c) ∧ ab (rv (h c)) ≤ 4096 * R) (hR1 : 1 / 2 ^ 60 ≤ R) (hR2 : R ≤ 2 ^ 80) {c : Nat} (hc : c < 36) : bwOk h mk z tk c ∧ fn (z c) ∧ ab (rv (z c)) ≤ 187000 * R ∧ (tk c ≠ 0 → ab (rv (mk c) * rv (z c) - (rv (h c) + tm4 tk (fun p => rv (z p)) c 1 + tm4 tk (fun p => rv (z p)) c 3)) ≤ uu * (1910000 * R)) ∧ (tk c = 0 → z c = FP.dconst0) := by
  have hR0 : 0 ≤ R := by grind
  have hall : ∀ d, d < 36 → tk d ≠ 0 → fn (z d) ∧ ab (rv (z d)) ≤ 187000 * R := fun d hd ht => by
    obtain ⟨a, b⟩ := bw_all hM hfix hh hR1 hR2 (10 - (d % 6 + d / 6)) d hd ht (by omega)
    have k : ((10 - (d % 6 + d / 6) : Nat) : Rat) ≤ 10 := nat_rat (show 10 - (d % 6 + d / 6) ≤ 10 by omega)
    have := Rat.mul_le_mul_of_nonneg_right k hR0
    exact ⟨a, by grind⟩
  rcases Classical.em (tk c = 0) with ht | ht
  · have e : z c = FP.dconst0 := by
      rw [hfix c hc]
      unfold bwV bw1 bw0
      rw [if_pos ht, if_pos ht, if_pos ht]
    refine ⟨⟨fun k => absurd ht k, fun k => absurd ht k, fun k => absurd ht k⟩, ?_, ?_, fun z => absurd ht z, fun _ => e⟩
    · rw [e]; exact fn_c0
    · rw [e, rv_c0, ab_of Rat.le_refl]
      grind
  · obtain ⟨i1, i2⟩ := hall c hc ht
    obtain ⟨k1, -, k3, -⟩ := bw_cell (z := z) (Z := 187000 * R) hM hc ht (hh c hc).1 (hh c hc).2 hR1 hR2 (by grind) Rat.le_refl (fun w hw k => hall _ (nb_36 hc (by omega) k.1) k.2)
    rw [← hfix c hc] at k3
    exact ⟨k1, i1, i2, fun _ => k3, fun z => absurd z ht⟩
theorem tm4_ab {tk : Nat → Int32} {f : Nat → Rat} {c w : Nat} {X : Rat} (hX : 0 ≤ X) (h : nbT tk c w → ab (f (nbN c w)) ≤ X) : ab (tm4 tk f c w) ≤ X := by
  unfold tm4
  rcases Classical.em (nbT tk c w) with g | g
  · rw [ind_t g, Rat.one_mul]
    exact h g
  · rw [ind_f g, Rat.zero_mul, ab_of Rat.le_refl]
    exact hX
theorem tm4_congr {tk : Nat → Int32} {f g : Nat → Rat} {c w : Nat} (h : nbT tk c w → f (nbN c w) = g (nbN c w)) : tm4 tk f c w = tm4 tk g c w := by
  unfold tm4
  rcases Classical.em (nbT tk c w) with k | k
  · rw [h k]
  · rw [ind_f k, Rat.zero_mul, Rat.zero_mul]
theorem tm4_add (tk : Nat → Int32) (f g : Nat → Rat) (c w : Nat) : tm4 tk (fun p => f p + g p) c w = tm4 tk f c w + tm4 tk g c w := by
  unfold tm4
  grind
theorem uE_out {tk : Nat → Int32} {c : Nat} (hc : ¬ tC tk c) (j : Nat) : uE (eC tk) c j = 0 ∧ uE (eC tk) j c = 0 := by
  have e1 : eC tk c j = 0 := by
    unfold eC
    exact ind_f (fun z => hc z.1)
  have e2 : eC tk j c = 0 := by
    rw [eC_sym]
    exact e1
  unfold uE
  rw [e1, e2]
  exact ⟨by split <;> rfl, by split <;> rfl⟩
theorem mM_out {tk : Nat → Int32} {D x : Nat → Rat} {c : Nat} (hc : ¬ tC tk c) (h : D c * x c = 0) : mM (eC tk) D x c = 0 := by
  unfold mM tV
  rw [h, sm_0 36 (fun j _ => by rw [(uE_out hc j).1, Rat.zero_mul]), sm_0 36 (fun j _ => by rw [(uE_out hc j).2, Rat.zero_mul])]
  decide +kernel
/-- M z is r, but for f -/
theorem mz_val {tk : Nat → Int32} {r h mk z : Nat → UInt64} {R : Rat} (hM : MkH tk mk) (hf1 : ∀ c, c < 36 → h c = fwV r mk h tk c) (hf2 : ∀ c, c < 36 → z c = bwV h mk z tk c) (hr : ∀ c, c < 36 → fn (r c) ∧ ab (rv (r c)) ≤ R) (hr0 : ∀ c, c < 36 → tk c = 0 → rv (r c) = 0) (hR1 : 1 / 2 ^ 60 ≤ R) (hR2 : R ≤ 2 ^ 80) {c : Nat} (hc : c < 36) : ab (mM (eC tk) (dC tk mk) (fun j => rv (z j)) c - rv (r c)) ≤ 1 / 2 ^ 30 * R := by
  have hh : ∀ c, c < 36 → fn (h c) ∧ ab (rv (h c)) ≤ 4096 * R := fun c hc => ⟨(fw_fin hM hf1 hr hR1 hR2 hc).2.1, (fw_fin hM hf1 hr hR1 hR2 hc).2.2.1⟩
  have hR0 : 0 ≤ R := by grind
  have u0 := uu_0
  have uR0 := Rat.mul_nonneg (Rat.le_of_lt u0) hR0
  rcases Classical.em (tk c = 0) with ht | ht
  · have hn : ¬ tC tk c := fun k => k.2 ht
    rw [mM_out hn (by unfold dC; rw [ind_f hn]; grind), hr0 c hc ht, show (0 : Rat) - 0 = 0 by grind, ab_of Rat.le_refl]
    grind
  · have tc : tC tk c := ⟨hc, ht⟩
    have tv : ∀ d, tC tk d → ab (tV (eC tk) (dC tk mk) (fun j => rv (z j)) d - rv (h d)) ≤ uu * (1910000 * R) := fun d hd => by
      have k := (bw_fin hM hf2 hh hR1 hR2 hd.1).2.2.2.1 hd.2
      unfold tV
      rw [uE_dot hd, dC_T hd]
      rw [show rv (mk d) * rv (z d) - (tm4 tk (fun j => rv (z j)) d 1 + tm4 tk (fun j => rv (z j)) d 3) - rv (h d) = rv (mk d) * rv (z d) - (rv (h d) + tm4 tk (fun p => rv (z p)) d 1 + tm4 tk (fun p => rv (z p)) d 3) by grind]
      exact k
    have fw := (fw_fin hM hf1 hr hR1 hR2 hc).2.2.2.1 ht
    have t0 := tv c tc
    unfold mM
    rw [lE_dot tc]
    have sp : ∀ w, (w = 0 ∨ w = 2) → tm4 tk (fun p => wD (dC tk mk) p * tV (eC tk) (dC tk mk) (fun j => rv (z j)) p) c w = tm4 tk (fun p => rv (h p) / rv (mk p)) c w + tm4 tk (fun p => (tV (eC tk) (dC tk mk) (fun j => rv (z j)) p - rv (h p)) / rv (mk p)) c w ∧ ab (tm4 tk (fun p => (tV (eC tk) (dC tk mk) (fun j => rv (z j)) p - rv (h p)) / rv (mk p)) c w) ≤ uu * (1910000 * R) := fun w hw => by
      constructor
      · rw [← tm4_add]
        refine tm4_congr (fun k => ?_)
        have td : tC tk (nbN c w) := ⟨nb_36 hc (by omega) k.1, k.2⟩
        have b := mkH_b hM hc ht hw k
        unfold wD
        rw [dC_T td]
        have : rv (mk (nbN c w)) ≠ 0 := by grind
        grind
      · refine tm4_ab (by grind) (fun k => ?_)
        have td : tC tk (nbN c w) := ⟨nb_36 hc (by omega) k.1, k.2⟩
        exact div_le1 (mkH_b hM hc ht hw k) (tv _ td)
    obtain ⟨p1, p2⟩ := sp 0 (Or.inl rfl)
    obtain ⟨p3, p4⟩ := sp 2 (Or.inr rfl)
    rw [p1, p3]
    generalize tm4 tk (fun p => (tV (eC tk) (dC tk mk) (fun j => rv (z j)) p - rv (h p)) / rv (mk p)) c 0 = E0 at *
    generalize tm4 tk (fun p => (tV (eC tk) (dC tk mk) (fun j => rv (z j)) p - rv (h p)) / rv (mk p)) c 2 = E2 at *
    generalize tV (eC tk) (dC tk mk) (fun j => rv (z j)) c = tc0 at *
    generalize tm4 tk (fun p => rv (h p) / rv (mk p)) c 0 = H0 at *
    generalize tm4 tk (fun p => rv (h p) / rv (mk p)) c 2 = H2 at *
    have a1 := ab_le.mp t0
    have a2 := ab_le.mp fw
    have a3 := ab_le.mp p2
    have a4 := ab_le.mp p4
    rw [ab_le]
    clear t0 fw p1 p2 p3 p4 sp tv hh hr hr0 hf1 hf2 hM
    unfold uu at *
    grind
/-- MAKING z: no NaN, and what z is -/
theorem mz_all {S : mS} {R : Rat} (hM : MkH (mA S 11) (mD S 15)) (hr : ∀ c, c < 36 → fn (mD S 17 c) ∧ ab (rv (mD S 17 c)) ≤ R) (hr0 : ∀ c, c < 36 → mA S 11 c = 0 → rv (mD S 17 c) = 0) (hR1 : 1 / 2 ^ 60 ≤ R) (hR2 : R ≤ 2 ^ 80) : mzOk S ∧ (∀ c, c < 36 → fn (mkZr S 36 c) ∧ ab (rv (mkZr S 36 c)) ≤ 187000 * R ∧ (mA S 11 c = 0 → mkZr S 36 c = FP.dconst0)) ∧ ∀ c, c < 36 → ab (mM (eC (mA S 11)) (dC (mA S 11) (mD S 15)) (fun j => rv (mkZr S 36 j)) c - rv (mD S 17 c)) ≤ 1 / 2 ^ 30 * R := by
  have hf1 : ∀ c, c < 36 → mkH S 36 c = fwV (mD S 17) (mD S 15) (mkH S 36) (mA S 11) c := fun c hc => (fwR_fix hc).1
  have hf2 : ∀ c, c < 36 → mkZr S 36 c = bwV (mkH S 36) (mD S 15) (mkZr S 36) (mA S 11) c := fun c hc => (bwR_fix hc).1
  have a : ∀ c, c < 36 → _ := fun c hc => fw_fin hM hf1 hr hR1 hR2 (c := c) hc
  have hh : ∀ c, c < 36 → fn (mkH S 36 c) ∧ ab (rv (mkH S 36 c)) ≤ 4096 * R := fun c hc => ⟨(a c hc).2.1, (a c hc).2.2.1⟩
  have b : ∀ c, c < 36 → _ := fun c hc => bw_fin hM hf2 hh hR1 hR2 (c := c) hc
  refine ⟨mz_fix S (fun c hc => (a c hc).1) (fun c hc => (b c hc).1), fun c hc => ⟨(b c hc).2.1, (b c hc).2.2.1, (b c hc).2.2.2.2⟩, fun c hc => mz_val hM hf1 hf2 hr hr0 hR1 hR2 hc⟩
