/-! step, tied: the pressure applied -/
theorem sol_in {sol : Nat → Int32} {x y : Int32} (h : isSolB sol x y = false) : ∃ i j : Nat, i < 6 ∧ j < 6 ∧ x = nI i ∧ y = nI j ∧ sol (6 * j + i) = 0 := by
  unfold isSolB at h
  by_cases hin : inB x y = true
  · obtain ⟨i, j, hi, hj, rfl, rfl⟩ := inB_nI hin
    rw [if_pos hin, nI_clamp (by omega), nI_clamp (by omega)] at h
    exact ⟨i, j, hi, hj, rfl, rfl, Decidable.of_not_not (of_decide_eq_false h)⟩
  · rw [if_neg hin] at h
    cases h
theorem sq_at {i j : Nat} (hi : i < 6) (hj : j < 6) : sqI (nI i) (nI j) = nI (6 * j + i) := by
  unfold sqI
  rw [if_pos (nI_inB hi hj), pk_mul, nI_add]
theorem tk_fl {sol fl : Nat → Int32} {c : Nat} (h : opN sol c ≠ 0) : (xb (tkB sol fl c) ≠ 0 ↔ fl c ≠ 0) := by
  unfold tkB
  by_cases h0 : fl c = 0
  · rw [if_pos h0]
    exact ⟨fun z => absurd rfl z, fun z => absurd h0 z⟩
  · rw [if_neg h0, if_neg h]
    exact ⟨fun _ => h0, fun _ => by decide⟩
theorem ap_gen {tk sol fl : Nat → Int32} {p p' af : Nat → UInt64} {f : Nat} {x y x' y' : Int32} (v : UInt64) (hv : v = af f) (hp : ∀ c, c < 36 → p c = p' c) (htk : ∀ c, c < 36 → tk c = xb (tkB sol fl c)) (hcl : clB sol f = (isSolB sol x y || isSolB sol x' y')) (hst : sideI f true = sqI x y) (hsf : sideI f false = sqI x' y') (hop : ∀ a b : Nat, isSolB sol x y = false → isSolB sol x' y' = false → sqI x y = nI a → sqI x' y' = nI b → a < 36 → b < 36 → opN sol a ≠ 0 ∧ opN sol b ≠ 0) : (if ((ptB tk x y || ptB tk x' y') && !(isSolB sol x y || isSolB sol x' y')) then FP.dsub v (FP.dsub (pAt p x y) (pAt p x' y')) else v) = pjG af p' sol fl f ∧ (pjOk af p' sol fl f → ((ptB tk x y || ptB tk x' y') && !(isSolB sol x y || isSolB sol x' y')) = true → vf_n64 (FP.dsub (pAt p x y) (pAt p x' y')) ∧ vf_n64 (FP.dsub v (FP.dsub (pAt p x y) (pAt p x' y')))) := by
  unfold pjG pjOk
  rw [hcl]
  cases h1 : isSolB sol x y with
  | true =>
    rw [Bool.true_or, if_pos rfl, Bool.not_true, Bool.and_false]
    exact ⟨hv, fun _ z => by cases z⟩
  | false =>
    cases h2 : isSolB sol x' y' with
    | true =>
      rw [Bool.or_true, if_pos rfl, Bool.not_true, Bool.and_false]
      exact ⟨hv, fun _ z => by cases z⟩
    | false =>
      have hop := fun a b => hop a b h1 h2
      obtain ⟨i, j, hi, hj, rfl, rfl, -⟩ := sol_in h1
      obtain ⟨i', j', hi', hj', rfl, rfl, -⟩ := sol_in h2
      obtain ⟨o1, o2⟩ := hop (6 * j + i) (6 * j' + i') (sq_at hi hj) (sq_at hi' hj') (by omega) (by omega)
      have q1 : sdN f true = 6 * j + i := by unfold sdN; rw [hst, sq_at hi hj, nI_clamp (by omega)]
      have q2 : sdN f false = 6 * j' + i' := by unfold sdN; rw [hsf, sq_at hi' hj', nI_clamp (by omega)]
      have d1 : FP.dsub (pAt p (nI i) (nI j)) (pAt p (nI i') (nI j')) = pjD p' f := by
        unfold pAt pjD
        rw [q1, q2, if_pos (nI_inB hi hj), if_pos (nI_inB hi' hj'), nI_clamp (by omega), nI_clamp (by omega), nI_clamp (by omega), nI_clamp (by omega), hp _ (by omega), hp _ (by omega)]
      have t1 := tk_fl (fl := fl) o1
      have t2 := tk_fl (fl := fl) o2
      rw [← htk _ (by omega)] at t1 t2
      rw [d1, q1, q2, pt_at tk hi hj, pt_at tk hi' hj', Bool.false_or, Bool.not_false, Bool.and_true, if_neg (show ¬ (false = true) by decide), ← hv]
      by_cases f2 : fl (6 * j' + i') ≠ 0
      · rw [if_pos f2, decide_eq_true (t2.mpr f2), Bool.or_true, if_pos rfl]
        exact ⟨rfl, fun ok _ => ok rfl (Or.inl f2)⟩
      · have f2' : ¬ tk (6 * j' + i') ≠ 0 := fun z => f2 (t2.mp z)
        rw [if_neg f2, decide_eq_false f2', Bool.or_false]
        by_cases f1 : fl (6 * j + i) = 0
        · have f1' : ¬ tk (6 * j + i) ≠ 0 := fun z => t1.mp z f1
          rw [if_pos f1, decide_eq_false f1', if_neg (by decide)]
          exact ⟨rfl, fun _ z => by cases z⟩
        · rw [if_neg f1, decide_eq_true (t1.mpr f1), if_pos rfl]
          exact ⟨rfl, fun ok _ => ok rfl (Or.inr f1)⟩
theorem op1 {sol : Nat → Int32} {c : Nat} (h : isSolB sol (nI (c % 6) - nI 1) (nI (c / 6)) = false ∨ isSolB sol (nI (c % 6) + nI 1) (nI (c / 6)) = false ∨ isSolB sol (nI (c % 6)) (nI (c / 6) - nI 1) = false ∨ isSolB sol (nI (c % 6)) (nI (c / 6) + nI 1) = false) : opN sol c ≠ 0 := by
  have e : ∀ b : Bool, b = false → b01 b = 1 := fun b hb => by rw [hb]; rfl
  unfold opN
  rcases h with h | h | h | h
  · rw [e _ h]; omega
  · rw [e _ h]; omega
  · rw [e _ h]; omega
  · rw [e _ h]; omega
theorem op_u {sol : Nat → Int32} {i j : Nat} (a b : Nat) (h1 : isSolB sol (nI i) (nI j) = false) (h2 : isSolB sol (nI i - nI 1) (nI j - nI 0) = false) (hj : j ≤ 5) (hi : i ≤ 6) (ea : sqI (nI i) (nI j) = nI a) (eb : sqI (nI i - nI 1) (nI j - nI 0) = nI b) (ha : a < 36) (hb : b < 36) : opN sol a ≠ 0 ∧ opN sol b ≠ 0 := by
  rw [show nI j - nI 0 = nI j from pk_sub (by omega)] at h2 eb
  obtain ⟨m, n, hm, hn, e1, e2, -⟩ := sol_in h1
  obtain ⟨m', n', hm', hn', e1', e2', -⟩ := sol_in h2
  have im : i = m := (nI_eq (by omega) (by omega)).mp e1
  have jn : j = n := (nI_eq (by omega) (by omega)).mp e2
  have jn' : j = n' := (nI_eq (by omega) (by omega)).mp e2'
  have im' : m' + 1 = i := by
    have : nI i - nI 1 + nI 1 = nI m' + nI 1 := by rw [e1']
    rw [Int32.sub_add_cancel, nI_add] at this
    exact ((nI_eq (by omega) (by omega)).mp this).symm
  subst im jn
  rw [sq_at hm hn] at ea
  rw [e1', sq_at hm' hn] at eb
  have ea := (nI_eq (by omega) (by omega)).mp ea
  have eb := (nI_eq (by omega) (by omega)).mp eb
  refine ⟨op1 (Or.inl ?_), op1 (Or.inr (Or.inl ?_))⟩
  · rw [← ea, show (6 * j + i) % 6 = i by omega, show (6 * j + i) / 6 = j by omega]
    exact h2
  · rw [← eb, show (6 * j + m') % 6 = m' by omega, show (6 * j + m') / 6 = j by omega, nI_add, im']
    exact h1
theorem op_v {sol : Nat → Int32} {i j : Nat} (a b : Nat) (h1 : isSolB sol (nI i) (nI j) = false) (h2 : isSolB sol (nI i - nI 0) (nI j - nI 1) = false) (hj : j ≤ 6) (hi : i ≤ 5) (ea : sqI (nI i) (nI j) = nI a) (eb : sqI (nI i - nI 0) (nI j - nI 1) = nI b) (ha : a < 36) (hb : b < 36) : opN sol a ≠ 0 ∧ opN sol b ≠ 0 := by
  rw [show nI i - nI 0 = nI i from pk_sub (by omega)] at h2 eb
  obtain ⟨m, n, hm, hn, e1, e2, -⟩ := sol_in h1
  obtain ⟨m', n', hm', hn', e1', e2', -⟩ := sol_in h2
  have im : i = m := (nI_eq (by omega) (by omega)).mp e1
  have jn : j = n := (nI_eq (by omega) (by omega)).mp e2
  have im' : i = m' := (nI_eq (by omega) (by omega)).mp e1'
  have jn' : n' + 1 = j := by
    have : nI j - nI 1 + nI 1 = nI n' + nI 1 := by rw [e2']
    rw [Int32.sub_add_cancel, nI_add] at this
    exact ((nI_eq (by omega) (by omega)).mp this).symm
  subst im jn
  rw [sq_at hm hn] at ea
  rw [e2', sq_at hm hn'] at eb
  have ea := (nI_eq (by omega) (by omega)).mp ea
  have eb := (nI_eq (by omega) (by omega)).mp eb
  refine ⟨op1 (Or.inr (Or.inr (Or.inl ?_))), op1 (Or.inr (Or.inr (Or.inr ?_)))⟩
  · rw [← ea, show (6 * j + i) % 6 = i by omega, show (6 * j + i) / 6 = j by omega]
    exact h2
  · rw [← eb, show (6 * n' + i) % 6 = i by omega, show (6 * n' + i) / 6 = n' by omega, nI_add, jn']
    exact h1
theorem ap_u {V : cS} {W : mS} (hs : ∀ c, c < 36 → cA V 11 c = mA W 1 c) (htk : ∀ c, c < 36 → cA V 27 c = xb (tkB (mA W 1) (mA W 10) c)) (hp : ∀ c, c < 36 → cD V 30 c = mD W 16 c) {i j : Nat} (hi : i ≤ 6) (hj : j ≤ 5) (hv : cD V 23 (7 * j + i) = mD W 13 (7 * j + i)) : apG V 23 (nI 1) (nI 0) i j = pjG (mD W 13) (mD W 16) (mA W 1) (mA W 10) (7 * j + i) ∧ (pjOk (mD W 13) (mD W 16) (mA W 1) (mA W 10) (7 * j + i) → apOk V 23 (nI 1) (nI 0) i j) := by
  have hcl : clB (mA W 1) (7 * j + i) = (isSolB (mA W 1) (nI i) (nI j) || isSolB (mA W 1) (nI i - nI 1) (nI j - nI 0)) := cl_u _ hi hj
  have key := ap_gen (tk := cA V 27) (sol := mA W 1) (fl := mA W 10) (p := cD V 30) (p' := mD W 16) (af := mD W 13) (f := 7 * j + i) (x := nI i) (y := nI j) (x' := nI i - nI 1) (y' := nI j - nI 0) (cD V 23 (7 * j + i)) hv hp htk hcl (side_u hi hj true) (by rw [show nI j - nI 0 = nI j from pk_sub (by omega)]; exact side_u hi hj false) (fun a b z1 z2 z3 z4 z5 z6 => op_u a b z1 z2 hj hi z3 z4 z5 z6)
  have ew : apW (cA V 27) (cA V 11) (nI 1) (nI 0) (nI i) (nI j) = ((ptB (cA V 27) (nI i) (nI j) || ptB (cA V 27) (nI i - nI 1) (nI j - nI 0)) && !(isSolB (mA W 1) (nI i) (nI j) || isSolB (mA W 1) (nI i - nI 1) (nI j - nI 0))) := by
    unfold apW
    rw [ic_eq hs]
    rfl
  unfold apOk apG apD
  rw [ew]
  refine ⟨key.1, fun ok z => ?_⟩
  rw [if_pos z]
  exact key.2 ok z
theorem ap_v {V : cS} {W : mS} (hs : ∀ c, c < 36 → cA V 11 c = mA W 1 c) (htk : ∀ c, c < 36 → cA V 27 c = xb (tkB (mA W 1) (mA W 10) c)) (hp : ∀ c, c < 36 → cD V 30 c = mD W 16 c) {i j : Nat} (hi : i ≤ 5) (hj : j ≤ 6) (hv : cD V 24 (7 * j + i) = mD W 13 (42 + 6 * j + i)) : apG V 24 (nI 0) (nI 1) i j = pjG (mD W 13) (mD W 16) (mA W 1) (mA W 10) (42 + 6 * j + i) ∧ (pjOk (mD W 13) (mD W 16) (mA W 1) (mA W 10) (42 + 6 * j + i) → apOk V 24 (nI 0) (nI 1) i j) := by
  have hcl : clB (mA W 1) (42 + 6 * j + i) = (isSolB (mA W 1) (nI i) (nI j) || isSolB (mA W 1) (nI i - nI 0) (nI j - nI 1)) := cl_v _ hi hj
  have key := ap_gen (tk := cA V 27) (sol := mA W 1) (fl := mA W 10) (p := cD V 30) (p' := mD W 16) (af := mD W 13) (f := 42 + 6 * j + i) (x := nI i) (y := nI j) (x' := nI i - nI 0) (y' := nI j - nI 1) (cD V 24 (7 * j + i)) hv hp htk hcl (side_v hi hj true) (by rw [show nI i - nI 0 = nI i from pk_sub (by omega)]; exact side_v hi hj false) (fun a b z1 z2 z3 z4 z5 z6 => op_v a b z1 z2 hj hi z3 z4 z5 z6)
  have ew : apW (cA V 27) (cA V 11) (nI 0) (nI 1) (nI i) (nI j) = ((ptB (cA V 27) (nI i) (nI j) || ptB (cA V 27) (nI i - nI 0) (nI j - nI 1)) && !(isSolB (mA W 1) (nI i) (nI j) || isSolB (mA W 1) (nI i - nI 0) (nI j - nI 1))) := by
    unfold apW
    rw [ic_eq hs]
    rfl
  unfold apOk apG apD
  rw [ew]
  refine ⟨key.1, fun ok z => ?_⟩
  rw [if_pos z]
  exact key.2 ok z
