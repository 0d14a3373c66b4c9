/-! the reference's world: the object at place 0, its arrays at 1 to 21 -/
def mu {α : Type} (f : Nat → α) (k : Nat) (v : α) : Nat → α := fun j => match Nat.beq j k with
  | true => v
  | false => f j
/-- numbers (0 thrown, 1 done, 2 failed); greatest; rows of int or boolean, of float, of double, by their places -/
abbrev mS : Type := (Nat → Int32) × UInt64 × (Nat → Nat → Int32) × (Nat → Nat → UInt32) × (Nat → Nat → UInt64)
abbrev mI (S : mS) (i : Nat) : Int32 := S.1 i
abbrev mG (S : mS) : UInt64 := S.2.1
abbrev mA (S : mS) (p : Nat) : Nat → Int32 := S.2.2.1 p
abbrev mF (S : mS) (p : Nat) : Nat → UInt32 := S.2.2.2.1 p
abbrev mD (S : mS) (p : Nat) : Nat → UInt64 := S.2.2.2.2 p
abbrev mI' (S : mS) (i : Nat) (x : Int32) : mS := (mu S.1 i x, S.2.1, S.2.2.1, S.2.2.2.1, S.2.2.2.2)
abbrev mG' (S : mS) (x : UInt64) : mS := (S.1, x, S.2.2.1, S.2.2.2.1, S.2.2.2.2)
abbrev mA' (S : mS) (p : Nat) (f : Nat → Int32) : mS := (S.1, S.2.1, mu S.2.2.1 p f, S.2.2.2.1, S.2.2.2.2)
abbrev mF' (S : mS) (p : Nat) (f : Nat → UInt32) : mS := (S.1, S.2.1, S.2.2.1, mu S.2.2.2.1 p f, S.2.2.2.2)
abbrev mD' (S : mS) (p : Nat) (f : Nat → UInt64) : mS := (S.1, S.2.1, S.2.2.1, S.2.2.2.1, mu S.2.2.2.2 p f)
abbrev aZ (n : Nat) (f : Nat → Int32) : va_E := .inl (3, n, .inl f)
abbrev aI (n : Nat) (f : Nat → Int32) : va_E := .inl (2, n, .inl f)
abbrev aF (n : Nat) (f : Nat → UInt32) : va_E := .inl (1, n, .inr (.inr (.inl f)))
abbrev aD (n : Nat) (f : Nat → UInt64) : va_E := .inl (0, n, .inr (.inr (.inr (.inl f))))
def mW (S : mS) : xA := [
  .inr (5, [.int (mI S 0), .ref 1, .ref 2, .ref 3, .ref 4, .ref 5, .ref 6, .ref 7, .int (mI S 1), .int (mI S 2), .ref 8, .ref 9, .double (mG S), .ref 10, .ref 11, .ref 12, .ref 13, .ref 14, .ref 15, .ref 16, .ref 17, .ref 18, .ref 19, .ref 20, .ref 21]),
  aZ 72 (mA S 1), aI 2 (mA S 2), aF 192 (mF S 3), aD 2 (mD S 4), aF 2 (mF S 5), aD 2 (mD S 6), aI 2 (mA S 7), aD 84 (mD S 8), aD 36 (mD S 9), aZ 36 (mA S 10), aZ 36 (mA S 11), aD 84 (mD S 12), aD 84 (mD S 13),
  aD 36 (mD S 14), aD 36 (mD S 15), aD 36 (mD S 16), aD 36 (mD S 17), aD 36 (mD S 18), aD 36 (mD S 19), aD 36 (mD S 20), aF 96 (mF S 21)]
/-- a row of booleans -/
def isB (f : Nat → Int32) : Prop := ∀ i, ∃ b : Bool, f i = xb b
theorem isB_upd {f : Nat → Int32} (h : isB f) (j : Nat) (b : Bool) : isB (upd f j (xb b)) := fun i => by
  by_cases hi : i = j
  · exact ⟨b, by simp [upd, hi]⟩
  · obtain ⟨c, hc⟩ := h i
    exact ⟨c, by simp [upd, hi, hc]⟩
def isSolB (f : Nat → Int32) (x y : Int32) : Bool := if inB x y then decide (f (6 * y.toNatClampNeg + x.toNatClampNeg) ≠ 0) else true
theorem inB_nI {x y : Int32} (h : inB x y = true) : ∃ i j : Nat, i < 6 ∧ j < 6 ∧ x = nI i ∧ y = nI j := by
  unfold inB at h
  split at h
  · cases h
  rename_i h1
  split at h
  · cases h
  rename_i h2
  split at h
  · cases h
  rename_i h3
  split at h
  · cases h
  rename_i h4
  obtain ⟨i, hi, rfl⟩ := nI_of h1
  obtain ⟨j, hj, rfl⟩ := nI_of h3
  refine ⟨i, j, ?_, ?_, rfl, rfl⟩
  · exact Nat.lt_of_not_le fun z => h2 (nI_le z hi)
  · exact Nat.lt_of_not_le fun z => h4 (nI_le z hj)
theorem nI_inB {i j : Nat} (hi : i < 6) (hj : j < 6) : inB (nI i) (nI j) = true := by
  unfold inB
  rw [if_neg (nI_pos (by omega)), if_neg (nI_ge hi (by decide)), if_neg (nI_pos (by omega)), if_neg (nI_ge hj (by decide))]
section MW
variable {l : Launch} {D : va_G} {ad : Nat → Nat} {cy : Nat → ClassId}
set_option maxRecDepth 100000 in
theorem m_thrown (S : mS) : xMet l yX5_thrown cX5_thrown 1 (some .int) 0 D ad cy [.ref 0] (mW S) (fun vs aw' => vs = [.int (mI S 0)] ∧ aw' = mW S) := by
  refine xmet (Fd := xlk xfl5) (Cn := xlk xcl5) (Cl := xCt []) (by decide) xk_X5_thrown xt_X5_thrown ⟨_, _, rfl, rfl⟩ xpl5 (xEnt_ok (fun q h => by cases h)) (Nat.le_of_ble_eq_true rfl) (fun WC hW => ?_)
  refine hW.1 (fun _ => false) 100 0 _ _ _ ?_
  exact And.intro rfl rfl
set_option maxRecDepth 100000 in
theorem m_fail (S : mS) (x : Int32) : xMet l yX5_fail cX5_fail 2 (some .int) 0 D ad cy [.ref 0, .int x] (mW S) (fun vs aw' => vs = [.int (nI 0)] ∧ aw' = mW (mI' S 0 x)) := by
  refine xmet (Fd := xlk xfl5) (Cn := xlk xcl5) (Cl := xCt []) (by decide) xk_X5_fail xt_X5_fail ⟨_, _, rfl, rfl⟩ xpl5 (xEnt_ok (fun q h => by cases h)) (Nat.le_of_ble_eq_true rfl) (fun WC hW => ?_)
  refine hW.1 (fun _ => false) 100 0 _ _ _ ?_
  exact And.intro rfl rfl
def s_fail (st : List Value) (aw : xA) (k : List Value → xA → Prop) : Prop := match st with
  | .int x :: .ref 0 :: st => match xsm st with
    | true => ∃ S, aw = mW S ∧ k (.int (nI 0) :: st) (mW (mI' S 0 x))
    | false => False
  | _ => False
theorem e_fail {d : Nat} (hd : 1 ≤ d) : xEnt l d D ad cy RX5 178 s_fail := xEnt_V (y' := yX5_fail) (cc' := cX5_fail) (n' := 2) (ret' := some .int) (d' := 0) (j := 89) 1 (by decide +kernel) (by decide +kernel) (by omega) (fun st aw k h => by
  match st, h with
  | .int x :: .ref 0 :: st, h =>
    cases hs : xsm st with
    | false => simp only [s_fail, hs] at h
    | true =>
      simp only [s_fail, hs] at h
      obtain ⟨S, rfl, h2⟩ := h
      exact ⟨[.int x], st, _, 0, 5, _, rfl, rfl, hs, rfl, ⟨_, rfl, rfl⟩, m_fail S x, fun vs aw' h9 => by obtain ⟨rfl, rfl⟩ := h9; exact h2⟩)
set_option maxRecDepth 100000 in
theorem m_isSolid (S : mS) (x y : Int32) : xMet l yX5_isSolid cX5_isSolid 3 (some .boolean) 1 D ad cy [.ref 0, .int x, .int y] (mW S) (fun vs aw' => vs = [.int (xb (isSolB (mA S 1) x y))] ∧ aw' = mW S) := by
  refine xmet (Fd := xlk xfl5) (Cn := xlk xcl5) (Cl := xCt [(171, s_inBox)]) (by decide) xk_X5_isSolid xt_X5_isSolid ⟨_, _, rfl, rfl⟩ xpl5 (xEnt_ok (List.forall_mem_cons.mpr ⟨e_inBox (by omega), fun q h => by cases h⟩)) (Nat.le_of_ble_eq_true rfl) (fun WC hW => ?_)
  refine hW.1 (fun _ => false) 100 0 _ _ _ ?_
  refine And.intro (fun h1 => ?_) (fun h1 => ?_)
  · have hi : inB x y = false := by cases h : inB x y <;> simp_all [xb]
    exact Exists.intro true ⟨rfl, by simp [isSolB, hi], rfl⟩
  have hi : inB x y = true := by cases h : inB x y <;> simp_all [xb]
  obtain ⟨i, j, hi6, hj6, rfl, rfl⟩ := inB_nI hi
  refine ⟨6 * j + i, by rw [pk_mul, nI_add], by omega, by decide, ?_⟩
  have e1 : isSolB (mA S 1) (nI i) (nI j) = decide (mA S 1 (6 * j + i) ≠ 0) := by simp [isSolB, hi, nI_clamp (show i < 2 ^ 31 by omega), nI_clamp (show j < 2 ^ 31 by omega)]
  refine And.intro (fun h2 => ?_) (fun h2 => ?_)
  · exact Exists.intro false ⟨rfl, by rw [e1]; simp [h2], rfl⟩
  · exact Exists.intro true ⟨rfl, by rw [e1]; simp [h2], rfl⟩
end MW
