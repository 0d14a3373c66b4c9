/-! step, tied: the particles moved, the class's side and all of them -/
def frP (S V : cS) : Prop := V.1 = S.1 ∧ V.2.1 = S.2.1 ∧ V.2.2.1 = S.2.2.1 ∧ V.2.2.2.1 = S.2.2.2.1 ∧ V.2.2.2.2.2 = S.2.2.2.2.2 ∧ (∀ p, (p < 12 ∨ 15 < p) → cF V p = cF S p)
theorem frP_r (S : cS) : frP S S := ⟨rfl, rfl, rfl, rfl, rfl, fun _ _ => rfl⟩
theorem frP_t {A B C : cS} (a : frP A B) (b : frP B C) : frP A C := ⟨b.1.trans a.1, b.2.1.trans a.2.1, b.2.2.1.trans a.2.2.1, b.2.2.2.1.trans a.2.2.2.1, b.2.2.2.2.1.trans a.2.2.2.2.1, fun p hp => (b.2.2.2.2.2 p hp).trans (a.2.2.2.2.2 p hp)⟩
theorem frP_F (S : cS) {q : Nat} (f : Nat → UInt32) (hq : 12 ≤ q ∧ q ≤ 15) : frP S (cF' S q f) := ⟨rfl, rfl, rfl, rfl, rfl, fun p hp => by show mu S.2.2.2.2.1 q f p = _; rw [mu_ne _ _ (by omega)]⟩
theorem frP_mp (S : cS) (k : Nat) (x y : UInt32) : frP S (mpE S k x y) := by
  unfold mpE
  split
  · exact frP_t (frP_F S _ (by omega)) (frP_F _ _ (by omega))
  · refine frP_t (frP_t (B := mpA S k (hoF x) x) ?_ ?_) (frP_t (frP_F _ _ (by omega)) (frP_F _ _ (by omega)))
    · unfold mpA
      split
      · exact frP_r S
      · exact frP_F S _ (by omega)
    · unfold mpB
      split
      · exact frP_r _
      · exact frP_F _ _ (by omega)
theorem cf_up (S : cS) (q p k d : Nat) (v : UInt32) (hd : d ≠ k) : cF (cF' S q (vf_upd (cF S q) k v)) p d = cF S p d := by
  show mu S.2.2.2.2.1 q (vf_upd (cF S q) k v) p d = _
  by_cases e : p = q
  · subst e
    unfold mu
    have eb : Nat.beq p p = true := Nat.beq_refl p
    rw [eb]
    show vf_upd (cF S p) k v d = cF S p d
    rw [vu_at, if_neg hd]
  · rw [mu_ne _ _ e]
theorem mp_off (S : cS) (k : Nat) (x y : UInt32) (p d : Nat) (hd : d ≠ k) : cF (mpE S k x y) p d = cF S p d := by
  unfold mpE
  split
  · exact (cf_up _ 15 p k d _ hd).trans (cf_up S 14 p k d _ hd)
  · have hA : cF (mpA S k (hoF x) x) p d = cF S p d := by
      unfold mpA
      split
      · rfl
      · exact cf_up S 14 p k d _ hd
    have hB : cF (mpB (mpA S k (hoF x) x) k (hoF y) y) p d = cF (mpA S k (hoF x) x) p d := by
      unfold mpB
      split
      · rfl
      · exact cf_up _ 15 p k d _ hd
    exact (cf_up _ 13 p k d _ hd).trans ((cf_up _ 12 p k d _ hd).trans (hB.trans hA))
theorem vu_k {α : Type} (f : Nat → α) (k : Nat) (x : α) : vf_upd f k x k = x := by rw [vu_at, if_pos rfl]
theorem mp_on {S : cS} {k : Nat} {X Y : UInt32} (nX : vf_n32 X) (nY : vf_n32 Y) : (isSolB (cA S 11) (FP.f2i (hoF X)) (FP.f2i (hoF Y)) = true → cF (mpE S k X Y) 12 k = cF S 12 k ∧ cF (mpE S k X Y) 13 k = cF S 13 k ∧ cF (mpE S k X Y) 14 k = FP.fconst0 ∧ cF (mpE S k X Y) 15 k = FP.fconst0) ∧ (isSolB (cA S 11) (FP.f2i (hoF X)) (FP.f2i (hoF Y)) = false → cF (mpE S k X Y) 12 k = hoF X ∧ cF (mpE S k X Y) 13 k = hoF Y ∧ cF (mpE S k X Y) 14 k = flp X (cF S 14 k) ∧ cF (mpE S k X Y) 15 k = flp Y (cF S 15 k)) := by
  unfold mpE
  refine ⟨fun h => ?_, fun h => ?_⟩
  · rw [if_pos h]
    exact ⟨rfl, rfl, vu_k _ _ _, vu_k _ _ _⟩
  · rw [if_neg (by rw [h]; decide)]
    refine ⟨vu_k _ _ _, vu_k _ _ _, ?_, ?_⟩
    · show cF (mpB (mpA S k (hoF X) X) k (hoF Y) Y) 14 k = _
      have e : cF (mpB (mpA S k (hoF X) X) k (hoF Y) Y) 14 k = cF (mpA S k (hoF X) X) 14 k := by unfold mpB; split <;> rfl
      rw [e]
      unfold mpA flp
      cases hb : edB X with
      | false => rw [if_pos ((ho_ed nX).mpr hb), if_neg (by decide)]
      | true =>
        rw [if_neg (fun z => by have := (ho_ed nX).mp z; rw [hb] at this; cases this), if_pos rfl]
        exact vu_k _ _ _
    · show cF (mpB (mpA S k (hoF X) X) k (hoF Y) Y) 15 k = _
      have e : cF (mpA S k (hoF X) X) 15 = cF S 15 := mpA_15 S k _ _
      unfold mpB flp
      cases hb : edB Y with
      | false => rw [if_pos ((ho_ed nY).mpr hb), if_neg (by decide), e]
      | true =>
        rw [if_neg (fun z => by have := (ho_ed nY).mp z; rw [hb] at this; cases this), if_pos rfl, e]
        exact vu_k _ _ _
/-- where a particle goes lies in the box -/
theorem ed_cell {X Y : UInt32} (nX : vf_n32 X) (nY : vf_n32 Y) : ∃ i j : Nat, i < 6 ∧ j < 6 ∧ FP.f2i (edV X) = nI i ∧ FP.f2i (edV Y) = nI j ∧ (cellI (edV X) (edV Y)).toNatClampNeg = 6 * j + i := by
  obtain ⟨i, hi, ei⟩ := place_cell (edV_off nX)
  obtain ⟨j, hj, ej⟩ := place_cell (edV_off nY)
  exact ⟨i, j, hi, hj, ei, ej, by unfold cellI; rw [ei, ej, pk_mul, nI_add, nI_clamp (by omega)]⟩
theorem mp_one {S : cS} {A : Nat → UInt64} {N : Nat → UInt32} {sol : Nat → Int32} {t : UInt64} {x y : UInt32} {k : Nat} (hu : ∀ i j, i ≤ 6 → j ≤ 5 → cD S 23 (7 * j + i) = A (7 * j + i)) (hv : ∀ i j, i ≤ 5 → j ≤ 6 → cD S 24 (7 * j + i) = A (42 + 6 * j + i)) (hs : ∀ c, c < 36 → cA S 11 c = sol c) (hx : cF S 12 k = x) (hy : cF S 13 k = y) (ha : cF S 14 k = N (4 * k + 2)) (hb : cF S 15 k = N (4 * k + 3)) (ok : mvOk A N t x y k) : mpOk S k t ∧ cF (mpS S k t) 12 k = mvF A N sol t x y k (4 * k) ∧ cF (mpS S k t) 13 k = mvF A N sol t x y k (4 * k + 1) ∧ cF (mpS S k t) 14 k = mvF A N sol t x y k (4 * k + 2) ∧ cF (mpS S k t) 15 k = mvF A N sol t x y k (4 * k + 3) := by
  obtain ⟨o1, o2, o3, o4, o5, o6⟩ := ok
  obtain ⟨q1, q2, q3⟩ := mp_xy hu hv t x y
  obtain ⟨c1, c2, c3, c4⟩ := q3 o1 o2 o3 o4
  have nX := o3.2.2.2.2
  have nY := o4.2.2.2.2
  obtain ⟨a0, a1, a2⟩ := mvA_0 A N t x y k
  unfold edOk at o5 o6
  have g1 : edS (mvA A N t x y k) (4 * k) (4 * k + 2) (4 * k + 1) = mvA A N t x y k (4 * k + 1) := by unfold edS; rw [vu_at, if_neg (by omega), vu_at, if_neg (by omega)]
  have g3 : edS (mvA A N t x y k) (4 * k) (4 * k + 2) (4 * k + 3) = mvA A N t x y k (4 * k + 3) := by unfold edS; rw [vu_at, if_neg (by omega), vu_at, if_neg (by omega)]
  rw [g1, g3, a1, a2 (4 * k + 3) (by omega), ← hb] at o6
  rw [a0, a2 (4 * k + 2) (by omega), ← ha] at o5
  have F := mvF_0 (A := A) (N := N) (sol := sol) (t := t) (x := x) (y := y) (k := k) rfl rfl
  unfold mpS mpOk
  rw [hx, hy, q1, q2]
  generalize mv3 A t x true (mv2 A t x y true x) (mv2 A t x y false y) = X at *
  generalize mv3 A t y false (mv2 A t x y true x) (mv2 A t x y false y) = Y at *
  have nX : vf_n32 X := nX
  have nY : vf_n32 Y := nY
  obtain ⟨i, j, hi, hj, ei, ej, ec⟩ := ed_cell nX nY
  have es : isSolB (cA S 11) (FP.f2i (hoF X)) (FP.f2i (hoF Y)) = decide (sol (6 * j + i) ≠ 0) := by
    rw [sol_eq hs, show FP.f2i (hoF X) = nI i from ei, show FP.f2i (hoF Y) = nI j from ej]
    unfold isSolB
    rw [if_pos (nI_inB hi hj), nI_clamp (by omega), nI_clamp (by omega)]
  rw [ec] at F
  have M := mp_on (S := S) (k := k) nX nY
  rw [es] at M
  refine ⟨⟨c1, c2, c3, c4, fun _ => ⟨fun z => o5 ?_, fun z => o6 ?_⟩⟩, ?_⟩
  · cases hh : edB X with
    | true => rfl
    | false => exact absurd ((ho_ed nX).mpr hh) z
  · cases hh : edB Y with
    | true => rfl
    | false => exact absurd ((ho_ed nY).mpr hh) z
  · by_cases h0 : sol (6 * j + i) = 0
    · obtain ⟨f1, f2, f3, f4⟩ := F.1 h0
      obtain ⟨m1, m2, m3, m4⟩ := M.2 (decide_eq_false (fun z => z h0))
      rw [f1, f2, f3, f4, m1, m2, m3, m4, ha, hb]
      exact ⟨rfl, rfl, rfl, rfl⟩
    · obtain ⟨f1, f2, f3, f4⟩ := F.2.1 h0
      obtain ⟨m1, m2, m3, m4⟩ := M.1 (decide_eq_true h0)
      rw [f1, f2, f3, f4, m1, m2, m3, m4, hx, hy]
      exact ⟨rfl, rfl, rfl, rfl⟩
