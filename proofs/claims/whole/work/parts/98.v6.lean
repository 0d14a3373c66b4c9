/-! step, tied: the particles moved -/
theorem cvf_self {x : UInt32} (h : vf_n32 x) : cvf x x .l = 0 := by
  unfold cvf
  rw [show FP.fcmp x x = some .eq from FP.Core.fcmp_self (n32_ne h)]
  rfl
theorem ho_ed {x : UInt32} (h : vf_n32 x) : (cvf (hoF x) x .l = 0 ↔ edB x = false) := by
  have hx := n32_ne h
  have s1 : FP.fcmp 1031798784 x = (FP.fcmp x 1031798784).map Ordering.swap := FP.Core.fcmp_swap _ _
  have s2 : FP.fcmp 1086193664 x = (FP.fcmp x 1086193664).map Ordering.swap := FP.Core.fcmp_swap _ _
  have ss : FP.fcmp x x = some .eq := FP.Core.fcmp_self hx
  unfold hoF edB
  cases ho : FP.fcmp x 1031798784 with
  | none =>
    rcases (FP.Core.fcmp_none x 1031798784).mp ho with z | z
    · exact absurd z hx
    · exact absurd z (by decide +kernel)
  | some o =>
    cases hq : FP.fcmp x 1086193664 with
    | none =>
      rcases (FP.Core.fcmp_none x 1086193664).mp hq with z | z
      · exact absurd z hx
      · exact absurd z (by decide +kernel)
    | some q =>
      rw [ho] at s1
      rw [hq] at s2
      unfold cvf
      rw [ho, hq]
      cases o with
      | lt => rw [if_neg (show ¬ 0 ≤ Op.cmpValue (some .lt) .g by decide), if_pos (show Op.cmpValue (some .lt) .g < 0 by decide), s1]; decide
      | eq =>
        rw [if_pos (show 0 ≤ Op.cmpValue (some .eq) .g by decide), if_neg (show ¬ Op.cmpValue (some .eq) .g < 0 by decide)]
        cases q with
        | lt => rw [if_pos (show Op.cmpValue (some .lt) .l ≤ 0 by decide), if_pos (show Op.cmpValue (some .lt) .l ≤ 0 by decide), ss]; decide
        | eq => rw [if_pos (show Op.cmpValue (some .eq) .l ≤ 0 by decide), if_pos (show Op.cmpValue (some .eq) .l ≤ 0 by decide), ss]; decide
        | gt => rw [if_neg (show ¬ Op.cmpValue (some .gt) .l ≤ 0 by decide), if_neg (show ¬ Op.cmpValue (some .gt) .l ≤ 0 by decide), s2]; decide
      | gt =>
        rw [if_pos (show 0 ≤ Op.cmpValue (some .gt) .g by decide), if_neg (show ¬ Op.cmpValue (some .gt) .g < 0 by decide)]
        cases q with
        | lt => rw [if_pos (show Op.cmpValue (some .lt) .l ≤ 0 by decide), if_pos (show Op.cmpValue (some .lt) .l ≤ 0 by decide), ss]; decide
        | eq => rw [if_pos (show Op.cmpValue (some .eq) .l ≤ 0 by decide), if_pos (show Op.cmpValue (some .eq) .l ≤ 0 by decide), ss]; decide
        | gt => rw [if_neg (show ¬ Op.cmpValue (some .gt) .l ≤ 0 by decide), if_neg (show ¬ Op.cmpValue (some .gt) .l ≤ 0 by decide), s2]; decide
/-- what the reference makes of a particle at (X, Y) that comes from (x, y) with speeds a, b -/
def flp (v a : UInt32) : UInt32 := if edB v then FP.fmul (FP.fneg a) 1056964608 else a
theorem mvE_0 {N : Nat → UInt32} {k : Nat} {X Y : UInt32} (h0 : N (4 * k) = X) (h1 : N (4 * k + 1) = Y) : mvE N k (4 * k) = edV X ∧ mvE N k (4 * k + 1) = edV Y ∧ mvE N k (4 * k + 2) = flp X (N (4 * k + 2)) ∧ mvE N k (4 * k + 3) = flp Y (N (4 * k + 3)) ∧ (∀ m, m < 4 * k ∨ 4 * k + 4 ≤ m → mvE N k m = N m) := by
  unfold mvE edS flp
  refine ⟨?_, ?_, ?_, ?_, fun m hm => ?_⟩
  · rw [vu_at, if_neg (by omega), vu_at, if_neg (by omega), vu_at, if_neg (by omega), vu_at, if_pos rfl, h0]
  · rw [vu_at, if_neg (by omega), vu_at, if_pos rfl, vu_at, if_neg (by omega), vu_at, if_neg (by omega), h1]
  · rw [vu_at, if_neg (by omega), vu_at, if_neg (by omega), vu_at, if_pos rfl, h0]
  · have q1 : vf_upd (vf_upd N (4 * k) (edV (N (4 * k)))) (4 * k + 2) (if edB (N (4 * k)) then FP.fmul (FP.fneg (N (4 * k + 2))) 1056964608 else N (4 * k + 2)) (4 * k + 1) = Y := by rw [vu_at, if_neg (by omega), vu_at, if_neg (by omega), h1]
    have q3 : vf_upd (vf_upd N (4 * k) (edV (N (4 * k)))) (4 * k + 2) (if edB (N (4 * k)) then FP.fmul (FP.fneg (N (4 * k + 2))) 1056964608 else N (4 * k + 2)) (4 * k + 3) = N (4 * k + 3) := by rw [vu_at, if_neg (by omega), vu_at, if_neg (by omega)]
    rw [q1, q3, vu_at, if_pos rfl]
  · rw [vu_at, if_neg (by omega), vu_at, if_neg (by omega), vu_at, if_neg (by omega), vu_at, if_neg (by omega)]
theorem mvA_0 (A : Nat → UInt64) (N : Nat → UInt32) (t : UInt64) (x y : UInt32) (k : Nat) : mvA A N t x y k (4 * k) = mv3 A t x true (mv2 A t x y true x) (mv2 A t x y false y) ∧ mvA A N t x y k (4 * k + 1) = mv3 A t y false (mv2 A t x y true x) (mv2 A t x y false y) ∧ (∀ m, m < 4 * k ∨ 4 * k + 2 ≤ m → mvA A N t x y k m = N m) := by
  unfold mvA
  refine ⟨?_, ?_, fun m hm => ?_⟩
  · rw [vu_at, if_neg (by omega), vu_at, if_pos rfl]
  · rw [vu_at, if_pos rfl]
  · rw [vu_at, if_neg (by omega), vu_at, if_neg (by omega)]
/-- the particle's four numbers behind a move, and all others -/
theorem mvF_0 {A : Nat → UInt64} {N : Nat → UInt32} {sol : Nat → Int32} {t : UInt64} {x y : UInt32} {k : Nat} {X Y : UInt32} (hX : mv3 A t x true (mv2 A t x y true x) (mv2 A t x y false y) = X) (hY : mv3 A t y false (mv2 A t x y true x) (mv2 A t x y false y) = Y) : (sol (cellI (edV X) (edV Y)).toNatClampNeg = 0 → mvF A N sol t x y k (4 * k) = edV X ∧ mvF A N sol t x y k (4 * k + 1) = edV Y ∧ mvF A N sol t x y k (4 * k + 2) = flp X (N (4 * k + 2)) ∧ mvF A N sol t x y k (4 * k + 3) = flp Y (N (4 * k + 3))) ∧ (sol (cellI (edV X) (edV Y)).toNatClampNeg ≠ 0 → mvF A N sol t x y k (4 * k) = x ∧ mvF A N sol t x y k (4 * k + 1) = y ∧ mvF A N sol t x y k (4 * k + 2) = FP.fconst0 ∧ mvF A N sol t x y k (4 * k + 3) = FP.fconst0) ∧ (∀ m, m < 4 * k ∨ 4 * k + 4 ≤ m → mvF A N sol t x y k m = N m) := by
  obtain ⟨a0, a1, a2⟩ := mvA_0 A N t x y k
  rw [hX] at a0
  rw [hY] at a1
  obtain ⟨e0, e1, e2, e3, e4⟩ := mvE_0 a0 a1
  rw [a2 _ (by omega)] at e2 e3
  unfold mvF mvS
  rw [e0, e1]
  refine ⟨fun h => ?_, fun h => ?_, fun m hm => ?_⟩
  · rw [if_pos h]
    exact ⟨e0, e1, e2, e3⟩
  · rw [if_neg h]
    refine ⟨?_, ?_, ?_, ?_⟩
    · rw [vu_at, if_neg (by omega), vu_at, if_neg (by omega), vu_at, if_neg (by omega), vu_at, if_pos rfl]
    · rw [vu_at, if_neg (by omega), vu_at, if_neg (by omega), vu_at, if_pos rfl]
    · rw [vu_at, if_neg (by omega), vu_at, if_pos rfl]
    · rw [vu_at, if_pos rfl]
  · by_cases h : sol (cellI (edV X) (edV Y)).toNatClampNeg = 0
    · rw [if_pos h, e4 m hm, a2 m (by omega)]
    · rw [if_neg h, vu_at, if_neg (by omega), vu_at, if_neg (by omega), vu_at, if_neg (by omega), vu_at, if_neg (by omega), e4 m hm, a2 m (by omega)]
/-- the class's moves -/
theorem mp_xy {S : cS} {A : Nat → UInt64} (hu : ∀ i j, i ≤ 6 → j ≤ 5 → cD S 23 (7 * j + i) = A (7 * j + i)) (hv : ∀ i j, i ≤ 5 → j ≤ 6 → cD S 24 (7 * j + i) = A (42 + 6 * j + i)) (t : UInt64) (x y : UInt32) : mpX S t x y = mv3 A t x true (mv2 A t x y true x) (mv2 A t x y false y) ∧ mpY S t x y = mv3 A t y false (mv2 A t x y true x) (mv2 A t x y false y) ∧ (mv2O A t x y true x → mv2O A t x y false y → mv3O A t x true (mv2 A t x y true x) (mv2 A t x y false y) → mv3O A t y false (mv2 A t x y true x) (mv2 A t x y false y) → cp2O (cD S 23) t x y true x ∧ cp2O (cD S 24) t x y false y ∧ cp3O (cD S 23) t x true (cp2 (cD S 23) t x y true x) (cp2 (cD S 24) t x y false y) ∧ cp3O (cD S 24) t y false (cp2 (cD S 23) t x y true x) (cp2 (cD S 24) t x y false y)) := by
  have u1 := cm_u hu (FP.f2d x) (FP.f2d y)
  have v1 := cm_v hv (FP.f2d x) (FP.f2d y)
  have c1 : cp2 (cD S 23) t x y true x = mv2 A t x y true x := by unfold cp2 mv2; rw [u1.1]
  have c2 : cp2 (cD S 24) t x y false y = mv2 A t x y false y := by unfold cp2 mv2; rw [v1.1]
  have u2 := cm_u hu (mv2 A t x y true x) (mv2 A t x y false y)
  have v2 := cm_v hv (mv2 A t x y true x) (mv2 A t x y false y)
  unfold mpX mpY
  rw [c1, c2]
  have d1 : cp3 (cD S 23) t x true (mv2 A t x y true x) (mv2 A t x y false y) = mv3 A t x true (mv2 A t x y true x) (mv2 A t x y false y) := by unfold cp3 mv3; rw [u2.1]
  have d2 : cp3 (cD S 24) t y false (mv2 A t x y true x) (mv2 A t x y false y) = mv3 A t y false (mv2 A t x y true x) (mv2 A t x y false y) := by unfold cp3 mv3; rw [v2.1]
  refine ⟨d1, d2, fun o1 o2 o3 o4 => ?_⟩
  unfold cp2O cp3O
  rw [c1, c2, d1, d2, u1.1, v1.1, u2.1, v2.1]
  obtain ⟨p1, p2, p3, p4, p5, p6⟩ := o1
  obtain ⟨q1, q2, q3, q4, q5, q6⟩ := o2
  obtain ⟨r1, r2, r3, r4, r5⟩ := o3
  obtain ⟨s1, s2, s3, s4, s5⟩ := o4
  exact ⟨⟨p1, p2, p3, u1.2 p1 p2 p4, p5, p6⟩, ⟨q1, q2, q3, v1.2 q1 q2 q4, q5, q6⟩, ⟨r1, u2.2 p6 q6 r2, r3, r4, r5⟩, ⟨s1, v2.2 p6 q6 s2, s3, s4, s5⟩⟩
