/-! step, tied: the grids -/
theorem rw_in {a : Nat} (G : Nat → Nat → UInt64) (old : Nat → UInt64) {b i j : Nat} (hi : i ≤ a) (ha : a ≤ 6) (hj : j ≤ b) : rwF a G old (b + 1) 0 (7 * j + i) = G i j := by
  unfold rwF
  rw [show (7 * j + i) % 7 = i by omega, show (7 * j + i) / 7 = j by omega, if_pos (by omega)]
theorem gM_eq {X X' Y Y' : Nat → UInt32} {fi fj : UInt64} {np : Nat} (h : ∀ k, k < np → X k = X' k ∧ Y k = Y' k) : ∀ m, m ≤ np → gM X Y fi fj m = gM X' Y' fi fj m
  | 0, _ => rfl
  | m + 1, hm => by
    rw [gM, gM, gM_eq h m (by omega)]
    unfold gW
    rw [(h m (by omega)).1, (h m (by omega)).2]
theorem gN_eq {X X' Y Y' A A' : Nat → UInt32} {fi fj : UInt64} {np : Nat} (h : ∀ k, k < np → X k = X' k ∧ Y k = Y' k) (ha : ∀ k, k < np → A k = A' k) : ∀ m, m ≤ np → gN X Y A fi fj m = gN X' Y' A' fi fj m
  | 0, _ => rfl
  | m + 1, hm => by
    rw [gN, gN, gN_eq h ha m (by omega)]
    unfold gW
    rw [(h m (by omega)).1, (h m (by omega)).2, ha m (by omega)]
theorem gF_eq {X X' Y Y' A A' : Nat → UInt32} {fi fj : UInt64} {np : Nat} (h : ∀ k, k < np → X k = X' k ∧ Y k = Y' k) (ha : ∀ k, k < np → A k = A' k) : gF X Y A fi fj np = gF X' Y' A' fi fj np := by
  unfold gF
  rw [gM_eq h np (Nat.le_refl np), gN_eq h ha np (Nat.le_refl np)]
theorem gOk_eq {X X' Y Y' A A' : Nat → UInt32} {fi fj : UInt64} {np : Nat} (h : ∀ k, k < np → X k = X' k ∧ Y k = Y' k) (ha : ∀ k, k < np → A k = A' k) (ok : gOkF X' Y' A' fi fj np) : gOkF X Y A fi fj np := by
  refine ⟨fun k hk => ?_, by rw [gF_eq h ha]; exact ok.2⟩
  have o := ok.1 k hk
  unfold gOk at o ⊢
  rw [gM_eq h (k + 1) (by omega), gN_eq h ha (k + 1) (by omega)]
  unfold gW at o ⊢
  rw [(h k hk).1, (h k hk).2, ha k hk]
  exact o
theorem md_fc : ∀ i : Fin 7, mdU i.val = FP.i2d (nI i.val) := by decide +kernel
theorem fc_u {i j : Nat} (hi : i ≤ 6) (hj : j ≤ 5) : fcX (7 * j + i) = mdU i ∧ fcY (7 * j + i) = mdV j := by
  unfold fcX fcY
  rw [if_pos (by omega), if_pos (by omega), show (7 * j + i) % 7 = i by omega, show (7 * j + i) / 7 = j by omega]
  exact ⟨(md_fc ⟨i, by omega⟩).symm, rfl⟩
theorem fc_v {i j : Nat} (hi : i ≤ 5) (hj : j ≤ 6) : fcX (42 + 6 * j + i) = mdV i ∧ fcY (42 + 6 * j + i) = mdU j := by
  unfold fcX fcY
  rw [if_neg (by omega), if_neg (by omega), show (42 + 6 * j + i - 42) % 6 = i by omega, show (42 + 6 * j + i - 42) / 6 = j by omega]
  exact ⟨rfl, (md_fc ⟨j, by omega⟩).symm⟩
theorem ga_u {np : Nat} {S : cS} {T : mS} (h : nowT np S T) {i j : Nat} (hi : i ≤ 6) (hj : j ≤ 5) : gF (cF S 12) (cF S 13) (cF S 14) (mdU i) (mdV j) np = gatG (mF T 3) np (7 * j + i) ∧ (gOkF (ptX (mF T 3)) (ptY (mF T 3)) (fcA (mF T 3) (7 * j + i)) (fcX (7 * j + i)) (fcY (7 * j + i)) np → gOkF (cF S 12) (cF S 13) (cF S 14) (mdU i) (mdV j) np) := by
  unfold gatG
  obtain ⟨e1, e2⟩ := fc_u hi hj
  rw [e1, e2]
  have a : ∀ k, k < np → cF S 14 k = fcA (mF T 3) (7 * j + i) k := fun k hk => by unfold fcA; rw [if_pos (by omega)]; exact (h.p1 k hk).2.2.1
  exact ⟨gF_eq (fun k hk => ⟨(h.p1 k hk).1, (h.p1 k hk).2.1⟩) a, gOk_eq (fun k hk => ⟨(h.p1 k hk).1, (h.p1 k hk).2.1⟩) a⟩
theorem ga_v {np : Nat} {S : cS} {T : mS} (h : nowT np S T) {i j : Nat} (hi : i ≤ 5) (hj : j ≤ 6) : gF (cF S 12) (cF S 13) (cF S 15) (mdV i) (mdU j) np = gatG (mF T 3) np (42 + 6 * j + i) ∧ (gOkF (ptX (mF T 3)) (ptY (mF T 3)) (fcA (mF T 3) (42 + 6 * j + i)) (fcX (42 + 6 * j + i)) (fcY (42 + 6 * j + i)) np → gOkF (cF S 12) (cF S 13) (cF S 15) (mdV i) (mdU j) np) := by
  unfold gatG
  obtain ⟨e1, e2⟩ := fc_v hi hj
  rw [e1, e2]
  have a : ∀ k, k < np → cF S 15 k = fcA (mF T 3) (42 + 6 * j + i) k := fun k hk => by unfold fcA; rw [if_neg (by omega)]; exact (h.p1 k hk).2.2.2
  exact ⟨gF_eq (fun k hk => ⟨(h.p1 k hk).1, (h.p1 k hk).2.1⟩) a, gOk_eq (fun k hk => ⟨(h.p1 k hk).1, (h.p1 k hk).2.1⟩) a⟩
theorem sq_sol (sol : Nat → Int32) (x y : Int32) : isSolB sol x y = if sqI x y < 0 then true else decide (sol (sqI x y).toNatClampNeg ≠ 0) := by
  unfold isSolB sqI
  by_cases hin : inB x y = true
  · obtain ⟨i, j, hi, hj, rfl, rfl⟩ := inB_nI hin
    rw [if_pos hin, if_pos hin, nI_clamp (by omega), nI_clamp (by omega), pk_mul, nI_add, nI_clamp (by omega), if_neg (by rw [Int32.lt_iff_toInt_lt, nI_toInt (by omega)]; exact fun z => absurd z (by show ¬ ((6 * j + i : Nat) : Int) < (0 : Int32).toInt; rw [show (0 : Int32).toInt = 0 from rfl]; omega))]
  · rw [if_neg hin, if_neg hin, if_pos (by decide)]
theorem cl_gen (sol : Nat → Int32) (a b : Int32) : (if a < 0 then true else if b < 0 then true else if sol a.toNatClampNeg ≠ 0 then true else if sol b.toNatClampNeg ≠ 0 then true else false) = ((if b < 0 then true else decide (sol b.toNatClampNeg ≠ 0)) || (if a < 0 then true else decide (sol a.toNatClampNeg ≠ 0))) := by
  by_cases h1 : a < 0
  · rw [if_pos h1, if_pos h1, Bool.or_true]
  · rw [if_neg h1, if_neg h1]
    by_cases h2 : b < 0
    · rw [if_pos h2, if_pos h2, Bool.true_or]
    · rw [if_neg h2, if_neg h2]
      by_cases h3 : sol a.toNatClampNeg ≠ 0
      · rw [if_pos h3, decide_eq_true h3, Bool.or_true]
      · rw [if_neg h3, decide_eq_false h3, Bool.or_false]
        by_cases h4 : sol b.toNatClampNeg ≠ 0
        · rw [if_pos h4, decide_eq_true h4]
        · rw [if_neg h4, decide_eq_false h4]
theorem side_u {i j : Nat} (hi : i ≤ 6) (hj : j ≤ 5) (b : Bool) : sideI (7 * j + i) b = sqI (if b then nI i else nI i - nI 1) (nI j) := by
  unfold sideI
  rw [if_pos (by omega), show (7 * j + i) % 7 = i by omega, show (7 * j + i) / 7 = j by omega]
theorem side_v {i j : Nat} (hi : i ≤ 5) (hj : j ≤ 6) (b : Bool) : sideI (42 + 6 * j + i) b = sqI (nI i) (if b then nI j else nI j - nI 1) := by
  unfold sideI
  rw [if_neg (by omega), show (42 + 6 * j + i - 42) % 6 = i by omega, show (42 + 6 * j + i - 42) / 6 = j by omega]
theorem cl_u (sol : Nat → Int32) {i j : Nat} (hi : i ≤ 6) (hj : j ≤ 5) : clB sol (7 * j + i) = icB sol (nI 1) (nI 0) (nI i) (nI j) := by
  unfold clB icB
  rw [cl_gen, sq_sol, sq_sol, side_u hi hj, side_u hi hj, show nI j - nI 0 = nI j from pk_sub (by omega)]
  rfl
theorem cl_v (sol : Nat → Int32) {i j : Nat} (hi : i ≤ 5) (hj : j ≤ 6) : clB sol (42 + 6 * j + i) = icB sol (nI 0) (nI 1) (nI i) (nI j) := by
  unfold clB icB
  rw [cl_gen, sq_sol, sq_sol, side_v hi hj, side_v hi hj, show nI i - nI 0 = nI i from pk_sub (by omega)]
  rfl
theorem ic_eq {f g : Nat → Int32} (h : ∀ c, c < 36 → f c = g c) (bi bj x y : Int32) : icB f bi bj x y = icB g bi bj x y := by
  unfold icB
  rw [sol_eq h, sol_eq h]
/-- the grids of both sides -/
def grT (S : cS) (T : mS) : Prop := (∀ i j, i ≤ 6 → j ≤ 5 → cD S 21 (7 * j + i) = mD T 12 (7 * j + i) ∧ cD S 23 (7 * j + i) = mD T 13 (7 * j + i)) ∧ (∀ i j, i ≤ 5 → j ≤ 6 → cD S 22 (7 * j + i) = mD T 12 (42 + 6 * j + i) ∧ cD S 24 (7 * j + i) = mD T 13 (42 + 6 * j + i))
theorem bg_21 (S : cS) (np : Nat) (t : UInt64) : cD (bgS S np t) 21 = rwF 6 (fun i j => gF (cF S 12) (cF S 13) (cF S 14) (mdU i) (mdV j) np) (cD S 21) 6 0 := rfl
theorem bg_22 (S : cS) (np : Nat) (t : UInt64) : cD (bgS S np t) 22 = rwF 5 (fun i j => gF (cF S 12) (cF S 13) (cF S 15) (mdV i) (mdU j) np) (cD S 22) 7 0 := rfl
theorem bg_23 (S : cS) (np : Nat) (t : UInt64) : ∃ old, cD (bgS S np t) 23 = rwF 6 (fun i j => if icB (cA S 11) (nI 1) (nI 0) (nI i) (nI j) then FP.dconst0 else va_cpy (cD (bgS S np t) 21) (cD S 23) 0 0 49 (7 * j + i)) old 6 0 := ⟨_, rfl⟩
theorem bg_24 (S : cS) (np : Nat) (t : UInt64) : ∃ old, cD (bgS S np t) 24 = rwF 5 (fun i j => if icB (cA S 11) (nI 0) (nI 1) (nI i) (nI j) then FP.dconst0 else rwF 5 (fun i j => FP.dadd (cD (bg4 S np) 24 (7 * j + i)) (FP.dmul t (cG S 0))) (cD (bg4 S np) 24) 7 0 (7 * j + i)) old 7 0 := ⟨_, rfl⟩
theorem b4_24 (S : cS) (np : Nat) : cD (bg4 S np) 24 = va_cpy (cD (bgB (bgA S np) np) 22) (cD S 24) 0 0 49 := rfl
theorem b2_22 (S : cS) (np : Nat) : cD (bgB (bgA S np) np) 22 = rwF 5 (fun i j => gF (cF S 12) (cF S 13) (cF S 15) (mdV i) (mdU j) np) (cD S 22) 7 0 := rfl
theorem cpy_49 (f g : Nat → UInt64) {k : Nat} (h : k < 49) : va_cpy f g 0 0 49 k = f k := by rw [cpy_in f g (by omega) (by omega)]; congr 1; omega
theorem st_13 (T : mS) (np : Nat) (t : UInt64) {f : Nat} (hf : f < 84) : mD (stC (stB (stA (mI' T 0 (nI 0)) np) np) t) 13 f = frcG (mD (stC (stB (stA (mI' T 0 (nI 0)) np) np) t) 12) (mA T 1) t (mD T 4 0) f := fil_in _ _ hf
theorem st_12 (T : mS) (np : Nat) (t : UInt64) {f : Nat} (hf : f < 84) : mD (stC (stB (stA (mI' T 0 (nI 0)) np) np) t) 12 f = gatG (mF T 3) np f := fil_in _ _ hf
theorem bg_tie {np : Nat} {S : cS} {T : mS} (h : nowT np S T) (t : UInt64) : grT (bgS S np t) (stC (stB (stA (mI' T 0 (nI 0)) np) np) t) := by
  have u12 : ∀ i j, i ≤ 6 → j ≤ 5 → cD (bgS S np t) 21 (7 * j + i) = mD (stC (stB (stA (mI' T 0 (nI 0)) np) np) t) 12 (7 * j + i) := fun i j hi hj => by
    rw [bg_21, rw_in _ _ hi (by omega) hj, st_12 T np t (by omega)]
    exact (ga_u h hi hj).1
  have v12 : ∀ i j, i ≤ 5 → j ≤ 6 → cD (bgS S np t) 22 (7 * j + i) = mD (stC (stB (stA (mI' T 0 (nI 0)) np) np) t) 12 (42 + 6 * j + i) := fun i j hi hj => by
    rw [bg_22, rw_in _ _ hi (by omega) hj, st_12 T np t (by omega)]
    exact (ga_v h hi hj).1
  refine ⟨fun i j hi hj => ⟨u12 i j hi hj, ?_⟩, fun i j hi hj => ⟨v12 i j hi hj, ?_⟩⟩
  · obtain ⟨old, e⟩ := bg_23 S np t
    rw [e, rw_in _ _ hi (by omega) hj, st_13 T np t (by omega)]
    show (if icB (cA S 11) (nI 1) (nI 0) (nI i) (nI j) then FP.dconst0 else va_cpy (cD (bgS S np t) 21) (cD S 23) 0 0 49 (7 * j + i)) = _
    unfold frcG
    rw [cl_u _ hi hj, ic_eq h.s1, cpy_49 _ _ (by omega), u12 i j hi hj, if_pos (show 7 * j + i < 42 by omega)]
  · obtain ⟨old, e⟩ := bg_24 S np t
    rw [e, rw_in _ _ hi (by omega) hj, st_13 T np t (by omega)]
    show (if icB (cA S 11) (nI 0) (nI 1) (nI i) (nI j) then FP.dconst0 else rwF 5 (fun i j => FP.dadd (cD (bg4 S np) 24 (7 * j + i)) (FP.dmul t (cG S 0))) (cD (bg4 S np) 24) 7 0 (7 * j + i)) = _
    unfold frcG
    have e2 : cD (bg4 S np) 24 (7 * j + i) = cD (bgS S np t) 22 (7 * j + i) := by rw [b4_24, cpy_49 _ _ (by omega), b2_22, bg_22]
    rw [cl_v _ hi hj, ic_eq h.s1, rw_in _ _ hi (by omega) hj, e2, v12 i j hi hj, if_neg (show ¬ 42 + 6 * j + i < 42 by omega), h.e1]
theorem bgOk_tie {np : Nat} {S : cS} {T : mS} (h : nowT np S T) (t : UInt64) (o1 : gaOk (stA (mI' T 0 (nI 0)) np) np) (o2 : foOk (stB (stA (mI' T 0 (nI 0)) np) np) t) : bgOk S np t := by
  have o2' : ∀ i j, i ≤ 5 → j ≤ 6 → vf_n64 (FP.dmul t (mD T 4 0)) ∧ vf_n64 (FP.dadd (gatG (mF T 3) np (42 + 6 * j + i)) (FP.dmul t (mD T 4 0))) := fun i j hi hj => by
    have := o2 (42 + 6 * j + i) (by omega) (by omega)
    have e : mD (stB (stA (mI' T 0 (nI 0)) np) np) 12 (42 + 6 * j + i) = gatG (mF T 3) np (42 + 6 * j + i) := fil_in _ _ (by omega)
    rw [e] at this
    exact this
  refine ⟨fun j i hj hi => (ga_u h hi hj).2 (o1 (7 * j + i) (by omega)), fun j i hj hi => (ga_v h hi hj).2 (o1 (42 + 6 * j + i) (by omega)), by rw [h.e1]; exact (o2' 0 0 (by omega) (by omega)).1, fun j i hj hi => ?_⟩
  rw [b4_24, cpy_49 _ _ (by omega), b2_22, rw_in _ _ hi (by omega) hj, h.e1]
  show vf_n64 (FP.dadd (gF (cF S 12) (cF S 13) (cF S 15) (mdV i) (mdU j) np) (FP.dmul t (mD T 4 0)))
  rw [(ga_v h hi hj).1]
  exact (o2' i j hi hj).2
