/-! the reference: its settings, solid and add -/
def cellI (x y : UInt32) : Int32 := nI 6 * FP.f2i y + FP.f2i x
def hasC (f : Nat → UInt32) (c : Int32) : Nat → Bool
  | 0 => false
  | k + 1 => hasC f c k || decide (cellI (f (4 * k)) (f (4 * k + 1)) = c)
section M2
variable {l : Launch} {D : va_G} {ad : Nat → Nat} {cy : Nat → ClassId}
set_option maxRecDepth 100000 in
theorem m_cellOf (x y : UInt32) (aw : xA) : xMet l yX5_cellOf cX5_cellOf 2 (some .int) 0 D ad cy [.float x, .float y] aw (fun vs aw' => vs = [.int (cellI x y)] ∧ aw' = aw) := by
  refine xmet (Fd := xlk xfl5) (Cn := xlk xcl5) (Cl := xCt []) (by decide) xk_X5_cellOf xt_X5_cellOf ⟨_, _, rfl, rfl⟩ xpl5 (xEnt_ok (fun q h => by cases h)) (Nat.le_of_ble_eq_true rfl) (fun WC hW => ?_)
  refine hW.1 (fun _ => false) 100 0 _ _ _ ?_
  exact And.intro rfl rfl
def s_cellOf (st : List Value) (aw : xA) (k : List Value → xA → Prop) : Prop := match st with
  | .float y :: .float x :: st => match xsm st with
    | true => k (.int (cellI x y) :: st) aw
    | false => False
  | _ => False
theorem e_cellOf {d : Nat} (hd : 1 ≤ d) : xEnt l d D ad cy RX5 187 s_cellOf := xEnt_S (y' := yX5_cellOf) (cc' := cX5_cellOf) (n' := 2) (ret' := some .int) (d' := 0) (j := 93) 2 (by decide +kernel) (by decide +kernel) (by omega) (fun st aw k h => by
  match st, h with
  | .float y :: .float x :: st, h =>
    cases hs : xsm st with
    | false => simp only [s_cellOf, hs] at h
    | true =>
      simp only [s_cellOf, hs] at h
      exact ⟨[.float x, .float y], st, _, rfl, rfl, hs, m_cellOf x y aw, fun vs aw' h9 => by obtain ⟨rfl, rfl⟩ := h9; exact h⟩)
set_option maxRecDepth 100000 in
theorem m_off (v lo hi : UInt32) (aw : xA) : xMet l yX5_off cX5_off 3 (some .boolean) 0 D ad cy [.float v, .float lo, .float hi] aw (fun vs aw' => vs = [.int (xb (offB v lo hi))] ∧ aw' = aw) := by
  refine xmet (Fd := xlk xfl5) (Cn := xlk xcl5) (Cl := xCt []) (by decide) xk_X5_off xt_X5_off ⟨_, _, rfl, rfl⟩ xpl5 (xEnt_ok (fun q h => by cases h)) (Nat.le_of_ble_eq_true rfl) (fun WC hW => ?_)
  refine hW.1 (fun _ => false) 100 0 _ _ _ ?_
  refine And.intro (fun h1 => ?_) (fun h1 => ?_)
  · exact Exists.intro true ⟨rfl, by simp [offB, h1], rfl⟩
  refine And.intro (fun h2 => ?_) (fun h2 => ?_)
  · exact Exists.intro false ⟨rfl, by simp [offB, h1, h2], rfl⟩
  · exact Exists.intro true ⟨rfl, by simp [offB, h1, h2], rfl⟩
def s_off (st : List Value) (aw : xA) (k : List Value → xA → Prop) : Prop := match st with
  | .float hi :: .float lo :: .float v :: st => match xsm st with
    | true => k (.int (xb (offB v lo hi)) :: st) aw
    | false => False
  | _ => False
theorem e_off {d : Nat} (hd : 1 ≤ d) : xEnt l d D ad cy RX5 199 s_off := xEnt_S (y' := yX5_off) (cc' := cX5_off) (n' := 3) (ret' := some .boolean) (d' := 0) (j := 99) 3 (by decide +kernel) (by decide +kernel) (by omega) (fun st aw k h => by
  match st, h with
  | .float hi :: .float lo :: .float v :: st, h =>
    cases hs : xsm st with
    | false => simp only [s_off, hs] at h
    | true =>
      simp only [s_off, hs] at h
      exact ⟨[.float v, .float lo, .float hi], st, _, rfl, rfl, hs, m_off v lo hi aw, fun vs aw' h9 => by obtain ⟨rfl, rfl⟩ := h9; exact h⟩)
theorem xb_ne {b : Bool} (h : ¬ xb b = 0) : b = true := by cases b <;> simp_all [xb]
theorem xb_eq {b : Bool} (h : xb b = 0) : b = false := by cases b <;> simp_all [xb]
/-- solid(x, y, b) of the reference -/
def rSolid (S : mS) (np : Nat) (x y : Int32) (b : Bool) : Int32 × mS :=
  if inB x y then (if b && hasC (mF S 3) (nI 6 * y + x) np then (0, mI' (mI' S 0 (nI 0)) 0 (nI 2)) else (mA S 1 (6 * y.toNatClampNeg + x.toNatClampNeg), mA' (mI' S 0 (nI 0)) 1 (upd (mA S 1) (6 * y.toNatClampNeg + x.toNatClampNeg) (xb b))))
  else (0, mI' (mI' S 0 (nI 0)) 0 (nI 1))
set_option maxRecDepth 100000 in
theorem m_solid (S : mS) (np : Nat) (hnp : mA S 2 0 = nI np) (h24 : np ≤ 24) (hB : isB (mA S 1)) (x y : Int32) (b : Bool) : xMet l yX5_solid cX5_solid 6 (some .boolean) 1 D ad cy [.ref 0, .int x, .int y, .int (xb b)] (mW S) (fun vs aw' => vs = [.int (rSolid S np x y b).1] ∧ aw' = mW (rSolid S np x y b).2) := by
  refine xmet (Fd := xlk xfl5) (Cn := xlk xcl5) (Cl := xCt [(171, s_inBox), (178, s_fail), (187, s_cellOf)]) (by decide) xk_X5_solid xt_X5_solid ⟨_, _, rfl, rfl⟩ xpl5 (xEnt_ok (List.forall_mem_cons.mpr ⟨e_inBox (by omega), List.forall_mem_cons.mpr ⟨e_fail (by omega), List.forall_mem_cons.mpr ⟨e_cellOf (by omega), fun q h => by cases h⟩⟩⟩)) (Nat.le_of_ble_eq_true rfl) (fun WC hW => ?_)
  have hfail : ∀ (z : Int32) (S' : mS), (rSolid S np x y b) = (0, S') → xRt (some .boolean) (fun vs aw' => vs = [.int (rSolid S np x y b).1] ∧ aw' = mW (rSolid S np x y b).2) [.int (nI 0)] (mW S') := fun z S' e => by
    rw [e]
    exact Exists.intro false ⟨rfl, rfl, rfl⟩
  refine hW.1 (fun pc => Nat.beq pc 38) 100 0 _ _ _ ?_
  refine And.intro (fun h1 => ?_) (fun h1 => ?_)
  rotate_left
  · have hi := xb_eq h1
    refine ⟨mI' S 0 (nI 0), rfl, ?_⟩
    refine And.intro (fun h2 => ?_) (fun h2 => absurd (by decide) h2)
    exact hfail 0 _ (by simp only [rSolid, hi]; rfl)
  have hi := xb_ne h1
  obtain ⟨i, j, hi6, hj6, rfl, rfl⟩ := inB_nI hi
  have hcl : nI 6 * nI j + nI i = nI (6 * j + i) := by rw [pk_mul, nI_add]
  have hc2 : 6 * (nI j).toNatClampNeg + (nI i).toNatClampNeg = 6 * j + i := by rw [nI_clamp (by omega), nI_clamp (by omega)]
  have loop : ∀ (n k : Nat), k + n = np → (b = true → hasC (mF S 3) (nI 6 * nI j + nI i) k = false) → WC (xL_X5_solid.drop 23) [some (.ref 0), some (.int (nI i)), some (.int (nI j)), some (.int (xb b)), some (.int (nI 6 * nI j + nI i)), some (.int (nI k))] [] (mW (mI' S 0 (nI 0))) := by
    intro n
    induction n with
    | zero =>
      intro k hk hno
      refine hW.1 (fun pc => Nat.beq pc 38) 100 23 _ _ _ ?_
      refine ⟨0, rfl, by decide, by decide, ?_⟩
      refine And.intro (fun h2 => ?_) (fun h2 => ?_)
      rotate_left
      · exact absurd (by show mA S 2 0 ≤ _; rw [hnp]; exact nI_le (by omega) (by omega)) h2
      refine ⟨6 * j + i, hcl, by omega, by decide, ?_⟩
      refine ⟨6 * j + i, b, rfl, hcl, by omega, by decide, ?_⟩
      obtain ⟨b0, hb0⟩ := hB (6 * j + i)
      have hk0 : k = np := by omega
      subst hk0
      have he : rSolid S k (nI i) (nI j) b = (mA S 1 (6 * j + i), mA' (mI' S 0 (nI 0)) 1 (upd (mA S 1) (6 * j + i) (xb b))) := by
        have hf : (b && hasC (mF S 3) (nI 6 * nI j + nI i) k) = false := by
          cases hb : b with
          | false => rfl
          | true => rw [hno hb]; rfl
        simp only [rSolid, hi, hf, hc2]
        rfl
      rw [he]
      exact Exists.intro b0 ⟨hb0, by show _ = [Value.int (mA S 1 (6 * j + i))]; rw [hb0], rfl⟩
    | succ n ih =>
      intro k hk hno
      refine hW.1 (fun pc => Nat.beq pc 38) 100 23 _ _ _ ?_
      refine ⟨0, rfl, by decide, by decide, ?_⟩
      refine And.intro (fun h2 => ?_) (fun h2 => ?_)
      · exact absurd (show nI np ≤ nI k by rw [← hnp]; exact h2) (nI_ge (by omega) (by omega))
      refine And.intro (fun h3 => ?_) (fun h3 => ?_)
      · have e1 : nI k + nI 1 = nI (k + 1) := nI_add k 1
        have hb := xb_eq h3
        have ih' := ih (k + 1) (by omega) (fun z => by rw [hb] at z; cases z)
        rw [← e1] at ih'
        exact ih'
      have hb := xb_ne h3
      refine ⟨4 * k, pk_mul 4 k, by omega, by decide, ?_⟩
      refine ⟨4 * k + 1, by rw [pk_mul, nI_add], by omega, by decide, ?_⟩
      refine And.intro (fun h4 => ?_) (fun h4 => ?_)
      · have e1 : nI k + nI 1 = nI (k + 1) := nI_add k 1
        have ih' := ih (k + 1) (by omega) (fun _ => by
          show (hasC _ _ k || _) = false
          rw [hno hb]
          exact decide_eq_false h4)
        rw [← e1] at ih'
        exact ih'
      · refine ⟨mI' S 0 (nI 0), rfl, ?_⟩
        refine And.intro (fun h5 => ?_) (fun h5 => absurd (by decide) h5)
        refine hfail 0 _ ?_
        have hx : hasC (mF S 3) (nI 6 * nI j + nI i) np = true := by
          have : ∀ m, k + 1 + m = np → hasC (mF S 3) (nI 6 * nI j + nI i) (k + 1 + m) = true := by
            intro m
            induction m with
            | zero => intro _; show (hasC _ _ k || decide _) = true; rw [decide_eq_true h4, Bool.or_true]
            | succ m ihm =>
              intro hm
              show (hasC _ _ (k + 1 + m) || _) = true
              have hmono : ∀ m, hasC (mF S 3) (nI 6 * nI j + nI i) (k + 1 + m) = true := by
                intro m
                induction m with
                | zero => show (hasC _ _ k || decide _) = true; rw [decide_eq_true h4, Bool.or_true]
                | succ m ihm => show (hasC _ _ (k + 1 + m) || _) = true; rw [ihm]; rfl
              rw [hmono m]; rfl
          have h9 := this (np - (k + 1)) (by omega)
          rw [show k + 1 + (np - (k + 1)) = np by omega] at h9
          exact h9
        simp only [rSolid, hi, hb, hx]
        rfl
  exact loop np 0 (by omega) (fun _ => rfl)
end M2
