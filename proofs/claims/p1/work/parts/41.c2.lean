/-! the class: its solver's small methods -/
def ptB (tk : Nat → Int32) (x y : Int32) : Bool := if inB x y then decide (tk (6 * y.toNatClampNeg + x.toNatClampNeg) ≠ 0) else false
def pAt (p : Nat → UInt64) (x y : Int32) : UInt64 := if inB x y then p (6 * y.toNatClampNeg + x.toNatClampNeg) else FP.dconst0
def amtC (x : UInt64) : UInt64 := if 0 ≤ cvd x FP.dconst0 .g then x else FP.dneg x
def rsC (r : Nat → UInt64) : Nat → UInt64
  | 0 => FP.dconst0
  | c + 1 => if cvd (amtC (r c)) (rsC r c) .l ≤ 0 then rsC r c else amtC (r c)
def adP (S : cS) (k : UInt64) (c : Nat) : UInt64 := FP.dadd (cD S 30 c) (FP.dmul k (cD S 34 c))
def adR (S : cS) (k : UInt64) (c : Nat) : UInt64 := FP.dsub (cD S 31 c) (FP.dmul k (cD S 33 c))
def adS (S : cS) (k : UInt64) (c : Nat) : cS := cD' (cD' S 30 (filR (adP S k) (cD S 30) c)) 31 (filR (adR S k) (cD S 31) c)
def adOk (S : cS) (k : UInt64) : Prop := ∀ c, c < 36 → vf_n64 (FP.dmul k (cD S 34 c)) ∧ vf_n64 (adP S k c) ∧ vf_n64 (FP.dmul k (cD S 33 c)) ∧ vf_n64 (adR S k c)
def trG (S : cS) (k : UInt64) (c : Nat) : UInt64 := FP.dadd (cD S 33 c) (FP.dmul k (cD S 34 c))
def trS (S : cS) (k : UInt64) (c : Nat) : cS := cD' S 34 (filR (trG S k) (cD S 34) c)
def trOk (S : cS) (k : UInt64) : Prop := ∀ c, c < 36 → vf_n64 (FP.dmul k (cD S 34 c)) ∧ vf_n64 (trG S k c)
section C2
variable {l : Launch} {D : va_G} {ad : Nat → Nat} {cy : Nat → ClassId}
set_option maxRecDepth 100000 in
set_option maxHeartbeats 4000000 in
theorem n_isPart (S : cS) (x y : Int32) : xMet l yX2_isPart cX2_isPart 3 (some .boolean) 1 D ad cy [.ref 7, .int x, .int y] (cW S) (fun vs aw' => vs = [.int (xb (ptB (cA S 27) x y))] ∧ aw' = cW S) := by
  refine xmet (Fd := xlk xfl2) (Cn := xlk xcl2) (Cl := xCt [(75, t_isCell), (83, t_cellIndex)]) (by decide) xk_X2_isPart xt_X2_isPart ⟨_, _, rfl, rfl⟩ xpl2 (xEnt_ok (List.forall_mem_cons.mpr ⟨f_isCell2 (by omega), List.forall_mem_cons.mpr ⟨f_cellIndex2 (by omega), fun q h => by cases h⟩⟩)) (Nat.le_of_ble_eq_true rfl) (fun WC hW => ?_)
  refine hW.1 (fun _ => false) 100 0 _ _ _ ?_
  refine And.intro (fun h1 => ?_) (fun h1 => ?_)
  · have hi : inB x y = false := xb_eq h1
    exact Exists.intro false ⟨rfl, by simp [ptB, hi], rfl⟩
  have hi : inB x y = true := xb_ne h1
  obtain ⟨i, j, hi6, hj6, rfl, rfl⟩ := inB_nI hi
  refine ⟨6 * j + i, by rw [pk_mul, nI_add, Nat.mul_comm], by omega, by decide, ?_⟩
  have e1 : ptB (cA S 27) (nI i) (nI j) = decide (cA S 27 (6 * j + i) ≠ 0) := by simp [ptB, hi, nI_clamp (show i < 2 ^ 31 by omega), nI_clamp (show j < 2 ^ 31 by omega)]
  refine And.intro (fun h2 => ?_) (fun h2 => ?_)
  · exact Exists.intro false ⟨rfl, by rw [e1]; simp [h2], rfl⟩
  · exact Exists.intro true ⟨rfl, by rw [e1]; simp [h2], rfl⟩
def t_isPart (st : List Value) (aw : xA) (k : List Value → xA → Prop) : Prop := match st with
  | .int y :: .int x :: .ref 7 :: st => match xsm st with
    | true => ∃ S : cS, aw = cW S ∧ k (.int (xb (ptB (cA S 27) x y)) :: st) (cW S)
    | false => False
  | _ => False
theorem f_isPart0 {d : Nat} (hd : 2 ≤ d) : xEnt l d D ad cy RX0 154 t_isPart := xEnt_V (y' := yX2_isPart) (cc' := cX2_isPart) (n' := 3) (ret' := some .boolean) (d' := 1) (j := 77) 2 (by decide +kernel) (by decide +kernel) (by omega) (fun st aw k h => by
  match st, h with
  | .int y :: .int x :: .ref 7 :: st, h =>
    cases hs : xsm st with
    | false => simp only [t_isPart, hs] at h
    | true =>
      simp only [t_isPart, hs] at h
      obtain ⟨S, rfl, h2⟩ := h
      exact ⟨[.int x, .int y], st, _, 7, 2, _, rfl, rfl, hs, rfl, ⟨_, rfl, rfl⟩, n_isPart S x y, fun vs aw' h9 => by obtain ⟨rfl, rfl⟩ := h9; exact h2⟩)
theorem f_isPart2 {d : Nat} (hd : 2 ≤ d) : xEnt l d D ad cy RX2 138 t_isPart := xEnt_V (y' := yX2_isPart) (cc' := cX2_isPart) (n' := 3) (ret' := some .boolean) (d' := 1) (j := 69) 2 (by decide +kernel) (by decide +kernel) (by omega) (fun st aw k h => by
  match st, h with
  | .int y :: .int x :: .ref 7 :: st, h =>
    cases hs : xsm st with
    | false => simp only [t_isPart, hs] at h
    | true =>
      simp only [t_isPart, hs] at h
      obtain ⟨S, rfl, h2⟩ := h
      exact ⟨[.int x, .int y], st, _, 7, 2, _, rfl, rfl, hs, rfl, ⟨_, rfl, rfl⟩, n_isPart S x y, fun vs aw' h9 => by obtain ⟨rfl, rfl⟩ := h9; exact h2⟩)
set_option maxRecDepth 100000 in
set_option maxHeartbeats 4000000 in
theorem n_pressureAt (S : cS) (x y : Int32) : xMet l yX2_pressureAt cX2_pressureAt 3 (some .double) 1 D ad cy [.ref 7, .int x, .int y] (cW S) (fun vs aw' => vs = [.double (pAt (cD S 30) x y)] ∧ aw' = cW S) := by
  refine xmet (Fd := xlk xfl2) (Cn := xlk xcl2) (Cl := xCt [(75, t_isCell), (83, t_cellIndex)]) (by decide) xk_X2_pressureAt xt_X2_pressureAt ⟨_, _, rfl, rfl⟩ xpl2 (xEnt_ok (List.forall_mem_cons.mpr ⟨f_isCell2 (by omega), List.forall_mem_cons.mpr ⟨f_cellIndex2 (by omega), fun q h => by cases h⟩⟩)) (Nat.le_of_ble_eq_true rfl) (fun WC hW => ?_)
  refine hW.1 (fun _ => false) 100 0 _ _ _ ?_
  refine And.intro (fun h1 => ?_) (fun h1 => ?_)
  · have hi : inB x y = false := xb_eq h1
    exact And.intro (by simp [pAt, hi]) rfl
  have hi : inB x y = true := xb_ne h1
  obtain ⟨i, j, hi6, hj6, rfl, rfl⟩ := inB_nI hi
  refine ⟨6 * j + i, by rw [pk_mul, nI_add, Nat.mul_comm], by omega, by decide, ?_⟩
  have e1 : pAt (cD S 30) (nI i) (nI j) = cD S 30 (6 * j + i) := by simp [pAt, hi, nI_clamp (show i < 2 ^ 31 by omega), nI_clamp (show j < 2 ^ 31 by omega)]
  exact And.intro (by rw [e1]) rfl
def t_pressureAt (st : List Value) (aw : xA) (k : List Value → xA → Prop) : Prop := match st with
  | .int y :: .int x :: .ref 7 :: st => match xsm st with
    | true => ∃ S : cS, aw = cW S ∧ k (.double (pAt (cD S 30) x y) :: st) (cW S)
    | false => False
  | _ => False
theorem f_pressureAt0 {d : Nat} (hd : 2 ≤ d) : xEnt l d D ad cy RX0 164 t_pressureAt := xEnt_V (y' := yX2_pressureAt) (cc' := cX2_pressureAt) (n' := 3) (ret' := some .double) (d' := 1) (j := 82) 2 (by decide +kernel) (by decide +kernel) (by omega) (fun st aw k h => by
  match st, h with
  | .int y :: .int x :: .ref 7 :: st, h =>
    cases hs : xsm st with
    | false => simp only [t_pressureAt, hs] at h
    | true =>
      simp only [t_pressureAt, hs] at h
      obtain ⟨S, rfl, h2⟩ := h
      exact ⟨[.int x, .int y], st, _, 7, 2, _, rfl, rfl, hs, rfl, ⟨_, rfl, rfl⟩, n_pressureAt S x y, fun vs aw' h9 => by obtain ⟨rfl, rfl⟩ := h9; exact h2⟩)
set_option maxRecDepth 100000 in
set_option maxHeartbeats 4000000 in
theorem n_greatestLeft (S : cS) : xMet l yX2_greatestLeft cX2_greatestLeft 6 (some .double) 0 D ad cy [.ref 7] (cW S) (fun vs aw' => vs = [.double (rsC (cD S 31) 36)] ∧ aw' = cW S) := by
  refine xmet (Fd := xlk xfl2) (Cn := xlk xcl2) (Cl := xCt []) (by decide) xk_X2_greatestLeft xt_X2_greatestLeft ⟨_, _, rfl, rfl⟩ xpl2 (xEnt_ok (fun q h => by cases h)) (Nat.le_of_ble_eq_true rfl) (fun WC hW => ?_)
  have loop : ∀ (n c : Nat), c + n = 36 → WC (xL_X2_greatestLeft.drop 4) [some (.ref 7), some (.double (rsC (cD S 31) c)), none, some (.int (nI c)), none, none] [] (cW S) := by
    intro n
    induction n with
    | zero =>
      intro c hc
      have : c = 36 := by omega
      subst this
      refine hW.1 (fun pc => Nat.beq pc 4) 200 4 _ _ _ ?_
      exact And.intro (fun h1 => And.intro rfl rfl) (fun h1 => absurd (Int32.le_refl _) h1)
    | succ n ih =>
      intro c hc
      have ih' := ih (c + 1) (by omega)
      have e1 : nI c + nI 1 = nI (c + 1) := nI_add c 1
      rw [← e1] at ih'
      have tail : ∀ v, amtC (cD S 31 c) = v → WC (xL_X2_greatestLeft.drop 24) [some (.ref 7), some (.double (rsC (cD S 31) c)), none, some (.int (nI c)), none, none] [.double v] (cW S) := by
        intro v hv
        refine hW.1 (fun pc => Nat.beq pc 4) 200 24 _ _ _ ?_
        refine And.intro (fun h2 => ?_) (fun h2 => ?_)
        · have e2 : rsC (cD S 31) (c + 1) = rsC (cD S 31) c := by show ite _ _ _ = _; rw [hv, if_pos h2]
          rw [e2] at ih'
          refine hW.2 4 _ _ _ _ ?_ ?_ ih'
          · exact And.intro rfl (And.intro rfl (And.intro rfl (trivial)))
          · rfl
        · have e2 : rsC (cD S 31) (c + 1) = v := by show ite _ _ _ = _; rw [hv, if_neg h2]
          rw [e2] at ih'
          refine hW.2 4 _ _ _ _ ?_ ?_ ih'
          · exact And.intro rfl (And.intro rfl (And.intro rfl (trivial)))
          · rfl
      refine hW.1 (fun pc => Nat.beq pc 4 || Nat.beq pc 37) 200 4 _ _ _ ?_
      refine And.intro (fun h1 => absurd h1 (nI_ge (b := 36) (by omega) (by decide))) (fun h1 => ?_)
      refine ⟨c, rfl, by omega, by decide, ?_⟩
      refine And.intro (fun h2 => ?_) (fun h2 => ?_)
      · refine ⟨c, rfl, by omega, by decide, ?_⟩
        exact tail _ (by unfold amtC; rw [if_pos h2])
      · refine ⟨c, rfl, by omega, by decide, ?_⟩
        exact tail _ (by unfold amtC; rw [if_neg h2])
  exact hW.1 (fun pc => Nat.beq pc 4) 200 0 _ _ _ (loop 36 0 (by omega))
def t_greatestLeft (st : List Value) (aw : xA) (k : List Value → xA → Prop) : Prop := match st with
  | .ref 7 :: st => match xsm st with
    | true => ∃ S : cS, aw = cW S ∧ k (.double (rsC (cD S 31) 36) :: st) (cW S)
    | false => False
  | _ => False
theorem f_greatestLeft1 {d : Nat} (hd : 1 ≤ d) : xEnt l d D ad cy RX1 92 t_greatestLeft := xEnt_V (y' := yX2_greatestLeft) (cc' := cX2_greatestLeft) (n' := 6) (ret' := some .double) (d' := 0) (j := 46) 0 (by decide +kernel) (by decide +kernel) (by omega) (fun st aw k h => by
  match st, h with
  | .ref 7 :: st, h =>
    cases hs : xsm st with
    | false => simp only [t_greatestLeft, hs] at h
    | true =>
      simp only [t_greatestLeft, hs] at h
      obtain ⟨S, rfl, h2⟩ := h
      exact ⟨[], st, _, 7, 2, _, rfl, rfl, hs, rfl, ⟨_, rfl, rfl⟩, n_greatestLeft S, fun vs aw' h9 => by obtain ⟨rfl, rfl⟩ := h9; exact h2⟩)
theorem f_greatestLeft2 {d : Nat} (hd : 1 ≤ d) : xEnt l d D ad cy RX2 148 t_greatestLeft := xEnt_V (y' := yX2_greatestLeft) (cc' := cX2_greatestLeft) (n' := 6) (ret' := some .double) (d' := 0) (j := 74) 0 (by decide +kernel) (by decide +kernel) (by omega) (fun st aw k h => by
  match st, h with
  | .ref 7 :: st, h =>
    cases hs : xsm st with
    | false => simp only [t_greatestLeft, hs] at h
    | true =>
      simp only [t_greatestLeft, hs] at h
      obtain ⟨S, rfl, h2⟩ := h
      exact ⟨[], st, _, 7, 2, _, rfl, rfl, hs, rfl, ⟨_, rfl, rfl⟩, n_greatestLeft S, fun vs aw' h9 => by obtain ⟨rfl, rfl⟩ := h9; exact h2⟩)
set_option maxRecDepth 100000 in
set_option maxHeartbeats 4000000 in
theorem n_product31 (S : cS) (hok : prOk (cD S 33) (cD S 31)) : xMet l yX2_product cX2_product 9 (some .double) 1 D ad cy [.ref 33, .ref 31] (cW S) (fun vs aw' => vs = [.double (prd (cD S 33) (cD S 31) 6)] ∧ aw' = cW S) := by
  refine xmet (Fd := xlk xfl2) (Cn := xlk xcl2) (Cl := xCt [(83, t_cellIndex)]) (by decide) xk_X2_product xt_X2_product ⟨_, _, rfl, rfl⟩ xpl2 (xEnt_ok (List.forall_mem_cons.mpr ⟨f_cellIndex2 (by omega), fun q h => by cases h⟩)) (Nat.le_of_ble_eq_true rfl) (fun WC hW => ?_)
  have inner : ∀ (s : UInt64) (j : Nat), j < 6 → (∀ i, i < 6 → vf_n64 (FP.dmul (cD S 33 (6 * j + i)) (cD S 31 (6 * j + i))) ∧ vf_n64 (pr1 (cD S 33) (cD S 31) j (i + 1))) → WC (xL_X2_product.drop 30) [some (.ref 33), some (.ref 31), some (.double s), none, some (.int (nI j)), some (.double (pr1 (cD S 33) (cD S 31) j 6)), none, none, none] [] (cW S) → ∀ (n i : Nat), i + n = 6 → WC (xL_X2_product.drop 11) [some (.ref 33), some (.ref 31), some (.double s), none, some (.int (nI j)), some (.double (pr1 (cD S 33) (cD S 31) j i)), none, some (.int (nI i)), none] [] (cW S) := by
    intro s j hj ok next n
    induction n with
    | zero =>
      intro i hi
      have : i = 6 := by omega
      subst this
      refine hW.1 (fun pc => Nat.beq pc 18 || Nat.beq pc 54) 200 11 _ _ _ ?_
      refine And.intro (fun h1 => ?_) (fun h1 => absurd (Int32.le_refl _) h1)
      refine hW.2 30 _ _ _ _ ?_ ?_ next
      · exact And.intro rfl (And.intro rfl (And.intro rfl (And.intro rfl (And.intro rfl (trivial)))))
      · rfl
    | succ n ih =>
      intro i hi
      have ih' := ih (i + 1) (by omega)
      have e1 : nI i + nI 1 = nI (i + 1) := nI_add i 1
      rw [← e1] at ih'
      obtain ⟨o1, o2⟩ := ok i (by omega)
      have e2 : nI j * nI 6 + nI i = nI (6 * j + i) := by rw [pk_mul, nI_add, Nat.mul_comm]
      refine hW.1 (fun pc => Nat.beq pc 18) 200 11 _ _ _ ?_
      refine And.intro (fun h1 => absurd h1 (nI_ge (b := 6) (by omega) (by decide))) (fun h1 => ?_)
      refine ⟨6 * j + i, e2, by omega, by decide, ?_⟩
      refine ⟨6 * j + i, e2, by omega, by decide, ?_⟩
      refine And.intro o1 (And.intro o2 ?_)
      refine hW.2 11 _ _ _ _ ?_ ?_ ih'
      · exact And.intro rfl (And.intro rfl (And.intro rfl (And.intro rfl (And.intro rfl (And.intro rfl (trivial))))))
      · rfl
  have outer : ∀ (n j : Nat), j + n = 6 → WC (xL_X2_product.drop 4) [some (.ref 33), some (.ref 31), some (.double (prd (cD S 33) (cD S 31) j)), none, some (.int (nI j)), none, none, none, none] [] (cW S) := by
    intro n
    induction n with
    | zero =>
      intro j hj
      have : j = 6 := by omega
      subst this
      refine hW.1 (fun pc => Nat.beq pc 5) 200 4 _ _ _ ?_
      exact And.intro (fun h1 => And.intro rfl rfl) (fun h1 => absurd (Int32.le_refl _) h1)
    | succ n ih =>
      intro j hj
      have ih' := ih (j + 1) (by omega)
      have e1 : nI j + nI 1 = nI (j + 1) := nI_add j 1
      rw [← e1] at ih'
      obtain ⟨o1, o2⟩ := hok j (by omega)
      have T30 : WC (xL_X2_product.drop 30) [some (.ref 33), some (.ref 31), some (.double (prd (cD S 33) (cD S 31) j)), none, some (.int (nI j)), some (.double (pr1 (cD S 33) (cD S 31) j 6)), none, none, none] [] (cW S) := by
        refine hW.1 (fun pc => Nat.beq pc 5) 200 30 _ _ _ ?_
        refine And.intro o2 ?_
        refine hW.2 4 _ _ _ _ ?_ ?_ ih'
        · exact And.intro rfl (And.intro rfl (And.intro rfl (And.intro rfl (trivial))))
        · rfl
      refine hW.1 (fun pc => Nat.beq pc 5 || Nat.beq pc 18) 200 4 _ _ _ ?_
      refine And.intro (fun h1 => absurd h1 (nI_ge (b := 6) (by omega) (by decide))) (fun h1 => ?_)
      exact inner _ j (by omega) o1 T30 6 0 (by omega)
  exact hW.1 (fun pc => Nat.beq pc 5) 200 0 _ _ _ (outer 6 0 (by omega))
set_option maxRecDepth 100000 in
set_option maxHeartbeats 4000000 in
theorem n_product34 (S : cS) (hok : prOk (cD S 33) (cD S 34)) : xMet l yX2_product cX2_product 9 (some .double) 1 D ad cy [.ref 33, .ref 34] (cW S) (fun vs aw' => vs = [.double (prd (cD S 33) (cD S 34) 6)] ∧ aw' = cW S) := by
  refine xmet (Fd := xlk xfl2) (Cn := xlk xcl2) (Cl := xCt [(83, t_cellIndex)]) (by decide) xk_X2_product xt_X2_product ⟨_, _, rfl, rfl⟩ xpl2 (xEnt_ok (List.forall_mem_cons.mpr ⟨f_cellIndex2 (by omega), fun q h => by cases h⟩)) (Nat.le_of_ble_eq_true rfl) (fun WC hW => ?_)
  have inner : ∀ (s : UInt64) (j : Nat), j < 6 → (∀ i, i < 6 → vf_n64 (FP.dmul (cD S 33 (6 * j + i)) (cD S 34 (6 * j + i))) ∧ vf_n64 (pr1 (cD S 33) (cD S 34) j (i + 1))) → WC (xL_X2_product.drop 30) [some (.ref 33), some (.ref 34), some (.double s), none, some (.int (nI j)), some (.double (pr1 (cD S 33) (cD S 34) j 6)), none, none, none] [] (cW S) → ∀ (n i : Nat), i + n = 6 → WC (xL_X2_product.drop 11) [some (.ref 33), some (.ref 34), some (.double s), none, some (.int (nI j)), some (.double (pr1 (cD S 33) (cD S 34) j i)), none, some (.int (nI i)), none] [] (cW S) := by
    intro s j hj ok next n
    induction n with
    | zero =>
      intro i hi
      have : i = 6 := by omega
      subst this
      refine hW.1 (fun pc => Nat.beq pc 18 || Nat.beq pc 54) 200 11 _ _ _ ?_
      refine And.intro (fun h1 => ?_) (fun h1 => absurd (Int32.le_refl _) h1)
      refine hW.2 30 _ _ _ _ ?_ ?_ next
      · exact And.intro rfl (And.intro rfl (And.intro rfl (And.intro rfl (And.intro rfl (trivial)))))
      · rfl
    | succ n ih =>
      intro i hi
      have ih' := ih (i + 1) (by omega)
      have e1 : nI i + nI 1 = nI (i + 1) := nI_add i 1
      rw [← e1] at ih'
      obtain ⟨o1, o2⟩ := ok i (by omega)
      have e2 : nI j * nI 6 + nI i = nI (6 * j + i) := by rw [pk_mul, nI_add, Nat.mul_comm]
      refine hW.1 (fun pc => Nat.beq pc 18) 200 11 _ _ _ ?_
      refine And.intro (fun h1 => absurd h1 (nI_ge (b := 6) (by omega) (by decide))) (fun h1 => ?_)
      refine ⟨6 * j + i, e2, by omega, by decide, ?_⟩
      refine ⟨6 * j + i, e2, by omega, by decide, ?_⟩
      refine And.intro o1 (And.intro o2 ?_)
      refine hW.2 11 _ _ _ _ ?_ ?_ ih'
      · exact And.intro rfl (And.intro rfl (And.intro rfl (And.intro rfl (And.intro rfl (And.intro rfl (trivial))))))
      · rfl
  have outer : ∀ (n j : Nat), j + n = 6 → WC (xL_X2_product.drop 4) [some (.ref 33), some (.ref 34), some (.double (prd (cD S 33) (cD S 34) j)), none, some (.int (nI j)), none, none, none, none] [] (cW S) := by
    intro n
    induction n with
    | zero =>
      intro j hj
      have : j = 6 := by omega
      subst this
      refine hW.1 (fun pc => Nat.beq pc 5) 200 4 _ _ _ ?_
      exact And.intro (fun h1 => And.intro rfl rfl) (fun h1 => absurd (Int32.le_refl _) h1)
    | succ n ih =>
      intro j hj
      have ih' := ih (j + 1) (by omega)
      have e1 : nI j + nI 1 = nI (j + 1) := nI_add j 1
      rw [← e1] at ih'
      obtain ⟨o1, o2⟩ := hok j (by omega)
      have T30 : WC (xL_X2_product.drop 30) [some (.ref 33), some (.ref 34), some (.double (prd (cD S 33) (cD S 34) j)), none, some (.int (nI j)), some (.double (pr1 (cD S 33) (cD S 34) j 6)), none, none, none] [] (cW S) := by
        refine hW.1 (fun pc => Nat.beq pc 5) 200 30 _ _ _ ?_
        refine And.intro o2 ?_
        refine hW.2 4 _ _ _ _ ?_ ?_ ih'
        · exact And.intro rfl (And.intro rfl (And.intro rfl (And.intro rfl (trivial))))
        · rfl
      refine hW.1 (fun pc => Nat.beq pc 5 || Nat.beq pc 18) 200 4 _ _ _ ?_
      refine And.intro (fun h1 => absurd h1 (nI_ge (b := 6) (by omega) (by decide))) (fun h1 => ?_)
      exact inner _ j (by omega) o1 T30 6 0 (by omega)
  exact hW.1 (fun pc => Nat.beq pc 5) 200 0 _ _ _ (outer 6 0 (by omega))
def t_product (st : List Value) (aw : xA) (k : List Value → xA → Prop) : Prop := match st with
  | .ref q :: .ref 33 :: st => match xsm st with
    | true => ∃ (S : cS) (b : Bool), aw = cW S ∧ q = (if b then 31 else 34) ∧ prOk (cD S 33) (if b then cD S 31 else cD S 34) ∧ k (.double (prd (cD S 33) (if b then cD S 31 else cD S 34) 6) :: st) (cW S)
    | false => False
  | _ => False
theorem f_product {d : Nat} (hd : 2 ≤ d) : xEnt l d D ad cy RX2 175 t_product := xEnt_S (y' := yX2_product) (cc' := cX2_product) (n' := 9) (ret' := some .double) (d' := 1) (j := 87) 2 (by decide +kernel) (by decide +kernel) (by omega) (fun st aw k h => by
  match st, h with
  | .ref q :: .ref 33 :: st, h =>
    cases hs : xsm st with
    | false => simp only [t_product, hs] at h
    | true =>
      simp only [t_product, hs] at h
      obtain ⟨S, b, rfl, rfl, hok, h2⟩ := h
      cases b with
      | true => exact ⟨[.ref 33, .ref 31], st, _, rfl, rfl, hs, n_product31 S hok, fun vs aw' h9 => by obtain ⟨rfl, rfl⟩ := h9; exact h2⟩
      | false => exact ⟨[.ref 33, .ref 34], st, _, rfl, rfl, hs, n_product34 S hok, fun vs aw' h9 => by obtain ⟨rfl, rfl⟩ := h9; exact h2⟩)
set_option maxRecDepth 100000 in
set_option maxHeartbeats 4000000 in
theorem n_advance (S : cS) (k : UInt64) (hok : adOk S k) : xMet l yX2_advance cX2_advance 4 none 0 D ad cy [.ref 7, .double k] (cW S) (fun vs aw' => vs = [] ∧ aw' = cW (adS S k 36)) := by
  refine xmet (Fd := xlk xfl2) (Cn := xlk xcl2) (Cl := xCt []) (by decide) xk_X2_advance xt_X2_advance ⟨_, _, rfl, rfl⟩ xpl2 (xEnt_ok (fun q h => by cases h)) (Nat.le_of_ble_eq_true rfl) (fun WC hW => ?_)
  have loop : ∀ (n c : Nat), c + n = 36 → WC (xL_X2_advance.drop 2) [some (.ref 7), some (.double k), none, some (.int (nI c))] [] (cW (adS S k c)) := by
    intro n
    induction n with
    | zero =>
      intro c hc
      have : c = 36 := by omega
      subst this
      refine hW.1 (fun pc => Nat.beq pc 2) 200 2 _ _ _ ?_
      exact And.intro (fun h1 => And.intro rfl rfl) (fun h1 => absurd (Int32.le_refl _) h1)
    | succ n ih =>
      intro c hc
      have ih' := ih (c + 1) (by omega)
      have e1 : nI c + nI 1 = nI (c + 1) := nI_add c 1
      unfold adS at ih'
      rw [← e1, filR_s, filR_s] at ih'
      obtain ⟨q1, q2, q3, q4⟩ := hok c (by omega)
      have es : filR (adP S k) (cD S 30) c c = cD S 30 c := by unfold filR; rw [if_neg (by omega)]
      have es2 : filR (adR S k) (cD S 31) c c = cD S 31 c := by unfold filR; rw [if_neg (by omega)]
      have k2 : adP S k c = FP.dadd (filR (adP S k) (cD S 30) c c) (FP.dmul k (cD S 34 c)) := by rw [es]; rfl
      have k4 : adR S k c = FP.dsub (filR (adR S k) (cD S 31) c c) (FP.dmul k (cD S 33 c)) := by rw [es2]; rfl
      rw [k2] at q2 ih'
      rw [k4] at q4 ih'
      unfold adS
      generalize filR (adP S k) (cD S 30) c = X at q2 ih' ⊢
      generalize filR (adR S k) (cD S 31) c = Y at q4 ih' ⊢
      refine hW.1 (fun pc => Nat.beq pc 2) 200 2 _ _ _ ?_
      refine And.intro (fun h2 => absurd h2 (nI_ge (b := 36) (by omega) (by decide))) (fun h2 => ?_)
      refine ⟨c, rfl, by omega, by decide, ?_⟩
      refine ⟨c, rfl, by omega, by decide, ?_⟩
      refine And.intro q1 (And.intro q2 ?_)
      refine ⟨c, rfl, by omega, by decide, ?_⟩
      refine ⟨c, rfl, by omega, by decide, ?_⟩
      refine ⟨c, rfl, by omega, by decide, ?_⟩
      refine And.intro q3 (And.intro q4 ?_)
      refine ⟨c, rfl, by omega, by decide, ?_⟩
      exact ih'
  have h9 := loop 36 0 (by omega)
  have e0 : cW (adS S k 0) = cW S := by unfold adS; rw [filR_0, filR_0]; rfl
  rw [e0] at h9
  exact hW.1 (fun pc => Nat.beq pc 2) 200 0 _ _ _ h9
def t_advance (st : List Value) (aw : xA) (k : List Value → xA → Prop) : Prop := match st with
  | .double x :: .ref 7 :: st => match xsm st with
    | true => ∃ S : cS, aw = cW S ∧ adOk S x ∧ k st (cW (adS S x 36))
    | false => False
  | _ => False
theorem f_advance {d : Nat} (hd : 1 ≤ d) : xEnt l d D ad cy RX2 192 t_advance := xEnt_V (y' := yX2_advance) (cc' := cX2_advance) (n' := 4) (ret' := none) (d' := 0) (j := 96) 1 (by decide +kernel) (by decide +kernel) (by omega) (fun st aw k h => by
  match st, h with
  | .double x :: .ref 7 :: st, h =>
    cases hs : xsm st with
    | false => simp only [t_advance, hs] at h
    | true =>
      simp only [t_advance, hs] at h
      obtain ⟨S, rfl, hok, h2⟩ := h
      exact ⟨[.double x], st, _, 7, 2, _, rfl, rfl, hs, rfl, ⟨_, rfl, rfl⟩, n_advance S x hok, fun vs aw' h9 => by obtain ⟨rfl, rfl⟩ := h9; exact h2⟩)
set_option maxRecDepth 100000 in
set_option maxHeartbeats 4000000 in
theorem n_turn (S : cS) (k : UInt64) (hok : trOk S k) : xMet l yX2_turn cX2_turn 4 none 0 D ad cy [.ref 7, .double k] (cW S) (fun vs aw' => vs = [] ∧ aw' = cW (trS S k 36)) := by
  refine xmet (Fd := xlk xfl2) (Cn := xlk xcl2) (Cl := xCt []) (by decide) xk_X2_turn xt_X2_turn ⟨_, _, rfl, rfl⟩ xpl2 (xEnt_ok (fun q h => by cases h)) (Nat.le_of_ble_eq_true rfl) (fun WC hW => ?_)
  have loop : ∀ (n c : Nat), c + n = 36 → WC (xL_X2_turn.drop 2) [some (.ref 7), some (.double k), none, some (.int (nI c))] [] (cW (trS S k c)) := by
    intro n
    induction n with
    | zero =>
      intro c hc
      have : c = 36 := by omega
      subst this
      refine hW.1 (fun pc => Nat.beq pc 2) 200 2 _ _ _ ?_
      exact And.intro (fun h1 => And.intro rfl rfl) (fun h1 => absurd (Int32.le_refl _) h1)
    | succ n ih =>
      intro c hc
      have ih' := ih (c + 1) (by omega)
      have e1 : nI c + nI 1 = nI (c + 1) := nI_add c 1
      unfold trS at ih'
      rw [← e1, filR_s] at ih'
      obtain ⟨q1, q2⟩ := hok c (by omega)
      have es : filR (trG S k) (cD S 34) c c = cD S 34 c := by unfold filR; rw [if_neg (by omega)]
      have k2 : trG S k c = FP.dadd (cD S 33 c) (FP.dmul k (filR (trG S k) (cD S 34) c c)) := by rw [es]; rfl
      rw [k2] at q2 ih'
      rw [← es] at q1
      unfold trS
      generalize filR (trG S k) (cD S 34) c = X at q1 q2 ih' ⊢
      refine hW.1 (fun pc => Nat.beq pc 2) 200 2 _ _ _ ?_
      refine And.intro (fun h2 => absurd h2 (nI_ge (b := 36) (by omega) (by decide))) (fun h2 => ?_)
      refine ⟨c, rfl, by omega, by decide, ?_⟩
      refine ⟨c, rfl, by omega, by decide, ?_⟩
      refine And.intro q1 (And.intro q2 ?_)
      refine ⟨c, rfl, by omega, by decide, ?_⟩
      exact ih'
  have h9 := loop 36 0 (by omega)
  have e0 : cW (trS S k 0) = cW S := by unfold trS; rw [filR_0]; rfl
  rw [e0] at h9
  exact hW.1 (fun pc => Nat.beq pc 2) 200 0 _ _ _ h9
def t_turn (st : List Value) (aw : xA) (k : List Value → xA → Prop) : Prop := match st with
  | .double x :: .ref 7 :: st => match xsm st with
    | true => ∃ S : cS, aw = cW S ∧ trOk S x ∧ k st (cW (trS S x 36))
    | false => False
  | _ => False
theorem f_turn {d : Nat} (hd : 1 ≤ d) : xEnt l d D ad cy RX2 200 t_turn := xEnt_V (y' := yX2_turn) (cc' := cX2_turn) (n' := 4) (ret' := none) (d' := 0) (j := 100) 1 (by decide +kernel) (by decide +kernel) (by omega) (fun st aw k h => by
  match st, h with
  | .double x :: .ref 7 :: st, h =>
    cases hs : xsm st with
    | false => simp only [t_turn, hs] at h
    | true =>
      simp only [t_turn, hs] at h
      obtain ⟨S, rfl, hok, h2⟩ := h
      exact ⟨[.double x], st, _, 7, 2, _, rfl, rfl, hs, rfl, ⟨_, rfl, rfl⟩, n_turn S x hok, fun vs aw' h9 => by obtain ⟨rfl, rfl⟩ := h9; exact h2⟩)
end C2
