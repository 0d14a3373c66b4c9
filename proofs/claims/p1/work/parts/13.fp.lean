/-! floats and doubles: comparisons, places -/
def offB (v lo hi : UInt32) : Bool := if Op.cmpValue (FP.fcmp v lo) .l < 0 then true else if Op.cmpValue (FP.fcmp v hi) .g ≤ 0 then false else true
theorem cv_l {o : Option Ordering} (h : ¬ Op.cmpValue o .l < 0) : o = some .gt ∨ o = some .eq := by
  match o, h with
  | none, h => exact absurd (by decide) h
  | some .lt, h => exact absurd (by decide) h
  | some .eq, _ => exact Or.inr rfl
  | some .gt, _ => exact Or.inl rfl
theorem cv_g {o : Option Ordering} (h : Op.cmpValue o .g ≤ 0) : o = some .lt ∨ o = some .eq := by
  match o, h with
  | none, h => exact absurd h (by decide)
  | some .lt, _ => exact Or.inl rfl
  | some .eq, _ => exact Or.inr rfl
  | some .gt, h => exact absurd h (by decide)
theorem place_cell {x : UInt32} (h : offB x 1031798784 1086193664 = false) : ∃ a : Nat, a < 6 ∧ FP.f2i x = nI a := by
  unfold offB at h
  split at h
  · cases h
  rename_i h1
  split at h
  rotate_left
  · cases h
  rename_i h2
  obtain ⟨nx, -, z1⟩ := FP.Core.fcmp_ge.mp (cv_l h1)
  obtain ⟨-, -, z2⟩ := FP.Core.fcmp_le.mp (cv_g h2)
  have e1 : FP.Core.zval FP.Core.b32 (FP.Core.val32 1031798784) = 2 ^ 145 := by decide +kernel
  have e2 : FP.Core.zval FP.Core.b32 (FP.Core.val32 1086193664) = 95 * 2 ^ 145 := by decide +kernel
  have e3 : FP.Core.one32 = 2 ^ 149 := by decide +kernel
  rw [e1] at z1
  rw [e2] at z2
  have hv := FP.Core.f2i_val nx
  rw [e3] at hv
  unfold FP.Core.zval at z1 z2
  generalize FP.Core.zmag FP.Core.b32 (FP.Core.val32 x) = m at hv z1 z2
  cases hs : FP.Core.sgn (FP.Core.val32 x) with
  | true =>
    rw [hs] at z1
    have z1 : (2 : Int) ^ 145 ≤ -(m : Int) := z1
    omega
  | false =>
    rw [hs] at z1 z2 hv
    have z1 : (2 : Int) ^ 145 ≤ (m : Int) := z1
    have z2 : (m : Int) ≤ 95 * 2 ^ 145 := z2
    have hv : (FP.f2i x).toInt = max (-2 ^ 31) (min (2 ^ 31 - 1) ((m / 2 ^ 149 : Nat) : Int)) := hv
    have hm : m / 2 ^ 149 < 6 := by omega
    refine ⟨m / 2 ^ 149, hm, Int32.toInt.inj ?_⟩
    rw [hv, nI_toInt (by omega)]
    omega
