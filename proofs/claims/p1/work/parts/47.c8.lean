/-! the class: hat, hold, isFace, isClosed, openNeighbours -/
def fcB (a b : Nat) (x y : Int32) : Bool := if x < 0 then false else if nI a < x then false else if y < 0 then false else if nI b < y then false else true
def icB (sol : Nat → Int32) (bi bj x y : Int32) : Bool := isSolB sol x y || isSolB sol (x - bi) (y - bj)
def opX (sol : Nat → Int32) (x y : Int32) : Nat := b01 (isSolB sol (x - nI 1) y) + b01 (isSolB sol (x + nI 1) y) + b01 (isSolB sol x (y - nI 1)) + b01 (isSolB sol x (y + nI 1))
section C8
variable {l : Launch} {D : va_G} {ad : Nat → Nat} {cy : Nat → ClassId}
set_option maxRecDepth 100000 in
set_option maxHeartbeats 4000000 in
theorem n_hat (x : UInt64) (hx : vf_n64 (hatF x)) (aw : xA) : xMet l yX0_hat cX0_hat 2 (some .double) 0 D ad cy [.double x] aw (fun vs aw' => vs = [.double (hatF x)] ∧ aw' = aw) := by
  refine xmet (Fd := xlk xfl0) (Cn := xlk xcl0) (Cl := xCt []) (by decide) xk_X0_hat xt_X0_hat ⟨_, _, rfl, rfl⟩ xpl0 (xEnt_ok (fun q h => by cases h)) (Nat.le_of_ble_eq_true rfl) (fun WC hW => ?_)
  have h12 : hatF x = hat2 x → WC (xL_X0_hat.drop 12) [some (.double x), none] [] aw := fun e => by
    refine hW.1 (fun _ => false) 200 12 _ _ _ ?_
    rw [e] at hx
    refine And.intro (fun h1 => ?_) (fun h1 => ?_)
    · refine And.intro ?_ rfl
      rw [e]; unfold hat2
      by_cases h2 : 0 ≤ cvd x FP.dconst0 .g
      · rw [if_pos h2]
      · rw [if_neg h2, if_pos h1]
    refine And.intro (fun h2 => ?_) (fun h2 => ?_)
    · refine And.intro ?_ rfl
      rw [e]; unfold hat2; rw [if_pos h2]
    · have e2 : hat2 x = FP.dadd FP.dconst1 x := by unfold hat2; rw [if_neg h2, if_neg h1]
      rw [e2] at hx
      refine And.intro hx (And.intro ?_ rfl)
      rw [e, e2]
  refine hW.1 (fun pc => Nat.beq pc 16) 200 0 _ _ _ ?_
  refine And.intro (fun h1 => h12 (by unfold hatF; rw [if_pos h1])) (fun h1 => ?_)
  refine And.intro (fun h2 => h12 (by unfold hatF; rw [if_neg h1, if_pos h2])) (fun h2 => ?_)
  have e2 : hatF x = FP.dsub FP.dconst1 x := by unfold hatF; rw [if_neg h1, if_neg h2]
  rw [e2] at hx
  refine And.intro hx (And.intro ?_ rfl)
  rw [e2]
def t_hat (st : List Value) (aw : xA) (k : List Value → xA → Prop) : Prop := match st with
  | .double x :: st => match xsm st with
    | true => vf_n64 (hatF x) ∧ k (.double (hatF x) :: st) aw
    | false => False
  | _ => False
theorem f_hat {d : Nat} (hd : 1 ≤ d) : xEnt l d D ad cy RX0 121 t_hat := xEnt_S (y' := yX0_hat) (cc' := cX0_hat) (n' := 2) (ret' := some .double) (d' := 0) (j := 60) 1 (by decide +kernel) (by decide +kernel) (by omega) (fun st aw k h => by
  match st, h with
  | .double x :: st, h =>
    cases hs : xsm st with
    | false => simp only [t_hat, hs] at h
    | true =>
      simp only [t_hat, hs] at h
      obtain ⟨h1, h2⟩ := h
      exact ⟨[.double x], st, _, rfl, rfl, hs, n_hat x h1 aw, fun vs aw' h9 => by obtain ⟨rfl, rfl⟩ := h9; exact h2⟩)
set_option maxRecDepth 100000 in
set_option maxHeartbeats 4000000 in
theorem n_hold (x : UInt64) (z : Int32) (aw : xA) : xMet l yX0_hold cX0_hold 3 (some .double) 0 D ad cy [.double x, .int z] aw (fun vs aw' => vs = [.double (wiF x (FP.i2d z))] ∧ aw' = aw) := by
  refine xmet (Fd := xlk xfl0) (Cn := xlk xcl0) (Cl := xCt []) (by decide) xk_X0_hold xt_X0_hold ⟨_, _, rfl, rfl⟩ xpl0 (xEnt_ok (fun q h => by cases h)) (Nat.le_of_ble_eq_true rfl) (fun WC hW => ?_)
  refine hW.1 (fun _ => false) 100 0 _ _ _ ?_
  refine And.intro (fun h1 => ?_) (fun h1 => ?_)
  · refine And.intro (fun h2 => ?_) (fun h2 => ?_)
    · exact And.intro (by unfold wiF; rw [if_pos h1, if_pos h2]) rfl
    · exact And.intro (by unfold wiF; rw [if_pos h1, if_neg h2]) rfl
  · exact And.intro (by unfold wiF; rw [if_neg h1]) rfl
def t_hold (st : List Value) (aw : xA) (k : List Value → xA → Prop) : Prop := match st with
  | .int z :: .double x :: st => match xsm st with
    | true => k (.double (wiF x (FP.i2d z)) :: st) aw
    | false => False
  | _ => False
theorem f_hold {d : Nat} (hd : 1 ≤ d) : xEnt l d D ad cy RX0 173 t_hold := xEnt_S (y' := yX0_hold) (cc' := cX0_hold) (n' := 3) (ret' := some .double) (d' := 0) (j := 86) 2 (by decide +kernel) (by decide +kernel) (by omega) (fun st aw k h => by
  match st, h with
  | .int z :: .double x :: st, h =>
    cases hs : xsm st with
    | false => simp only [t_hold, hs] at h
    | true =>
      simp only [t_hold, hs] at h
      exact ⟨[.double x, .int z], st, _, rfl, rfl, hs, n_hold x z aw, fun vs aw' h9 => by obtain ⟨rfl, rfl⟩ := h9; exact h⟩)
set_option maxRecDepth 100000 in
set_option maxHeartbeats 4000000 in
theorem n_isFace9 (S : cS) (x y : Int32) : xMet l yX0_isFace cX0_isFace 3 (some .boolean) 0 D ad cy [.ref 9, .int x, .int y] (cW S) (fun vs aw' => vs = [.int (xb (fcB 6 5 x y))] ∧ aw' = cW S) := by
  refine xmet (Fd := xlk xfl0) (Cn := xlk xcl0) (Cl := xCt []) (by decide) xk_X0_isFace xt_X0_isFace ⟨_, _, rfl, rfl⟩ xpl0 (xEnt_ok (fun q h => by cases h)) (Nat.le_of_ble_eq_true rfl) (fun WC hW => ?_)
  refine hW.1 (fun _ => false) 100 0 _ _ _ ?_
  refine And.intro (fun h1 => ?_) (fun h1 => ?_)
  · exact Exists.intro false ⟨rfl, by unfold fcB; rw [if_pos h1], rfl⟩
  refine And.intro (fun h2 => ?_) (fun h2 => ?_)
  · exact Exists.intro false ⟨rfl, by unfold fcB; rw [if_neg h1, if_pos h2], rfl⟩
  refine And.intro (fun h3 => ?_) (fun h3 => ?_)
  · exact Exists.intro false ⟨rfl, by unfold fcB; rw [if_neg h1, if_neg h2, if_pos h3], rfl⟩
  refine And.intro (fun h4 => ?_) (fun h4 => ?_)
  · exact Exists.intro false ⟨rfl, by unfold fcB; rw [if_neg h1, if_neg h2, if_neg h3, if_pos h4], rfl⟩
  · exact Exists.intro true ⟨rfl, by unfold fcB; rw [if_neg h1, if_neg h2, if_neg h3, if_neg h4], rfl⟩
set_option maxRecDepth 100000 in
set_option maxHeartbeats 4000000 in
theorem n_isFace10 (S : cS) (x y : Int32) : xMet l yX0_isFace cX0_isFace 3 (some .boolean) 0 D ad cy [.ref 10, .int x, .int y] (cW S) (fun vs aw' => vs = [.int (xb (fcB 5 6 x y))] ∧ aw' = cW S) := by
  refine xmet (Fd := xlk xfl0) (Cn := xlk xcl0) (Cl := xCt []) (by decide) xk_X0_isFace xt_X0_isFace ⟨_, _, rfl, rfl⟩ xpl0 (xEnt_ok (fun q h => by cases h)) (Nat.le_of_ble_eq_true rfl) (fun WC hW => ?_)
  refine hW.1 (fun _ => false) 100 0 _ _ _ ?_
  refine And.intro (fun h1 => ?_) (fun h1 => ?_)
  · exact Exists.intro false ⟨rfl, by unfold fcB; rw [if_pos h1], rfl⟩
  refine And.intro (fun h2 => ?_) (fun h2 => ?_)
  · exact Exists.intro false ⟨rfl, by unfold fcB; rw [if_neg h1, if_pos h2], rfl⟩
  refine And.intro (fun h3 => ?_) (fun h3 => ?_)
  · exact Exists.intro false ⟨rfl, by unfold fcB; rw [if_neg h1, if_neg h2, if_pos h3], rfl⟩
  refine And.intro (fun h4 => ?_) (fun h4 => ?_)
  · exact Exists.intro false ⟨rfl, by unfold fcB; rw [if_neg h1, if_neg h2, if_neg h3, if_pos h4], rfl⟩
  · exact Exists.intro true ⟨rfl, by unfold fcB; rw [if_neg h1, if_neg h2, if_neg h3, if_neg h4], rfl⟩
set_option maxRecDepth 100000 in
set_option maxHeartbeats 4000000 in
theorem n_isClosed5 (S : cS) (x y : Int32) : xMet l yX0_isClosed cX0_isClosed 4 (some .boolean) 2 D ad cy [.ref 5, .ref 1, .int x, .int y] (cW S) (fun vs aw' => vs = [.int (xb (icB (cA S 11) (nI 1) (nI 0) x y))] ∧ aw' = cW S) := by
  refine xmet (Fd := xlk xfl0) (Cn := xlk xcl0) (Cl := xCt [(146, t_isSolid)]) (by decide) xk_X0_isClosed xt_X0_isClosed ⟨_, _, rfl, rfl⟩ xpl0 (xEnt_ok (List.forall_mem_cons.mpr ⟨f_isSolid0 (by omega), fun q h => by cases h⟩)) (Nat.le_of_ble_eq_true rfl) (fun WC hW => ?_)
  refine hW.1 (fun _ => false) 100 0 _ _ _ ?_
  refine ⟨S, rfl, ?_⟩
  refine And.intro (fun h1 => ?_) (fun h1 => ?_)
  · exact Exists.intro true ⟨rfl, by unfold icB; rw [xb_ne h1]; rfl, rfl⟩
  refine ⟨S, rfl, ?_⟩
  refine And.intro (fun h2 => ?_) (fun h2 => ?_)
  · exact Exists.intro false ⟨rfl, by unfold icB; rw [xb_eq h1, xb_eq h2]; rfl, rfl⟩
  · exact Exists.intro true ⟨rfl, by unfold icB; rw [xb_eq h1, xb_ne h2]; rfl, rfl⟩
set_option maxRecDepth 100000 in
set_option maxHeartbeats 4000000 in
theorem n_isClosed6 (S : cS) (x y : Int32) : xMet l yX0_isClosed cX0_isClosed 4 (some .boolean) 2 D ad cy [.ref 6, .ref 1, .int x, .int y] (cW S) (fun vs aw' => vs = [.int (xb (icB (cA S 11) (nI 0) (nI 1) x y))] ∧ aw' = cW S) := by
  refine xmet (Fd := xlk xfl0) (Cn := xlk xcl0) (Cl := xCt [(146, t_isSolid)]) (by decide) xk_X0_isClosed xt_X0_isClosed ⟨_, _, rfl, rfl⟩ xpl0 (xEnt_ok (List.forall_mem_cons.mpr ⟨f_isSolid0 (by omega), fun q h => by cases h⟩)) (Nat.le_of_ble_eq_true rfl) (fun WC hW => ?_)
  refine hW.1 (fun _ => false) 100 0 _ _ _ ?_
  refine ⟨S, rfl, ?_⟩
  refine And.intro (fun h1 => ?_) (fun h1 => ?_)
  · exact Exists.intro true ⟨rfl, by unfold icB; rw [xb_ne h1]; rfl, rfl⟩
  refine ⟨S, rfl, ?_⟩
  refine And.intro (fun h2 => ?_) (fun h2 => ?_)
  · exact Exists.intro false ⟨rfl, by unfold icB; rw [xb_eq h1, xb_eq h2]; rfl, rfl⟩
  · exact Exists.intro true ⟨rfl, by unfold icB; rw [xb_eq h1, xb_ne h2]; rfl, rfl⟩
def t_isClosed (st : List Value) (aw : xA) (k : List Value → xA → Prop) : Prop := match st with
  | .int y :: .int x :: .ref 1 :: .ref r :: st => match xsm st with
    | true => ∃ (S : cS) (b : Bool), aw = cW S ∧ r = (if b then 5 else 6) ∧ k (.int (xb (icB (cA S 11) (if b then nI 1 else nI 0) (if b then nI 0 else nI 1) x y)) :: st) (cW S)
    | false => False
  | _ => False
theorem f_isClosed {d : Nat} (hd : 3 ≤ d) : xEnt l d D ad cy RX0 138 t_isClosed := xEnt_V (y' := yX0_isClosed) (cc' := cX0_isClosed) (n' := 4) (ret' := some .boolean) (d' := 2) (j := 69) 3 (by decide +kernel) (by decide +kernel) (by omega) (fun st aw k h => by
  match st, h with
  | .int y :: .int x :: .ref 1 :: .ref r :: st, h =>
    cases hs : xsm st with
    | false => simp only [t_isClosed, hs] at h
    | true =>
      simp only [t_isClosed, hs] at h
      obtain ⟨S, b, rfl, rfl, h2⟩ := h
      cases b with
      | true => exact ⟨[.ref 1, .int x, .int y], st, _, 5, 0, _, rfl, rfl, hs, rfl, ⟨_, rfl, rfl⟩, n_isClosed5 S x y, fun vs aw' h9 => by obtain ⟨rfl, rfl⟩ := h9; exact h2⟩
      | false => exact ⟨[.ref 1, .int x, .int y], st, _, 6, 0, _, rfl, rfl, hs, rfl, ⟨_, rfl, rfl⟩, n_isClosed6 S x y, fun vs aw' h9 => by obtain ⟨rfl, rfl⟩ := h9; exact h2⟩)
set_option maxRecDepth 100000 in
set_option maxHeartbeats 4000000 in
theorem on_0 (S : cS) (Q : Int32) (WC : xC → xO → List Value → xA → Prop) (hW : xSys xL_X3_openNeighbours (xlk xfl3) (xlk xcl3) (xCt [(130, t_isSolid)]) (xRt (some .int) (fun vs aw' => vs = [.int Q] ∧ aw' = cW S)) WC) (x y : Int32) (n : Nat) (next : WC (xL_X3_openNeighbours.drop 10) [some (.ref 1), some (.int x), some (.int y), some (.int (nI (n + b01 (isSolB (cA S 11) (x - nI 1) (y)))))] [] (cW S)) : WC (xL_X3_openNeighbours.drop 2) [some (.ref 1), some (.int x), some (.int y), some (.int (nI n))] [] (cW S) := by
  refine hW.1 (fun pc => Nat.beq pc 16) 100 2 _ _ _ ?_
  refine ⟨S, rfl, ?_⟩
  refine And.intro (fun h1 => ?_) (fun h1 => ?_)
  · rw [xb_ne h1] at next
    exact next
  · rw [xb_eq h1] at next
    have e1 : nI n + nI 1 = nI (n + b01 false) := nI_add n 1
    rw [← e1] at next
    exact next
set_option maxRecDepth 100000 in
set_option maxHeartbeats 4000000 in
theorem on_1 (S : cS) (Q : Int32) (WC : xC → xO → List Value → xA → Prop) (hW : xSys xL_X3_openNeighbours (xlk xfl3) (xlk xcl3) (xCt [(130, t_isSolid)]) (xRt (some .int) (fun vs aw' => vs = [.int Q] ∧ aw' = cW S)) WC) (x y : Int32) (n : Nat) (next : WC (xL_X3_openNeighbours.drop 18) [some (.ref 1), some (.int x), some (.int y), some (.int (nI (n + b01 (isSolB (cA S 11) (x + nI 1) (y)))))] [] (cW S)) : WC (xL_X3_openNeighbours.drop 10) [some (.ref 1), some (.int x), some (.int y), some (.int (nI n))] [] (cW S) := by
  refine hW.1 (fun pc => Nat.beq pc 30) 100 10 _ _ _ ?_
  refine ⟨S, rfl, ?_⟩
  refine And.intro (fun h1 => ?_) (fun h1 => ?_)
  · rw [xb_ne h1] at next
    exact next
  · rw [xb_eq h1] at next
    have e1 : nI n + nI 1 = nI (n + b01 false) := nI_add n 1
    rw [← e1] at next
    exact next
set_option maxRecDepth 100000 in
set_option maxHeartbeats 4000000 in
theorem on_2 (S : cS) (Q : Int32) (WC : xC → xO → List Value → xA → Prop) (hW : xSys xL_X3_openNeighbours (xlk xfl3) (xlk xcl3) (xCt [(130, t_isSolid)]) (xRt (some .int) (fun vs aw' => vs = [.int Q] ∧ aw' = cW S)) WC) (x y : Int32) (n : Nat) (next : WC (xL_X3_openNeighbours.drop 26) [some (.ref 1), some (.int x), some (.int y), some (.int (nI (n + b01 (isSolB (cA S 11) (x) (y - nI 1)))))] [] (cW S)) : WC (xL_X3_openNeighbours.drop 18) [some (.ref 1), some (.int x), some (.int y), some (.int (nI n))] [] (cW S) := by
  refine hW.1 (fun pc => Nat.beq pc 44) 100 18 _ _ _ ?_
  refine ⟨S, rfl, ?_⟩
  refine And.intro (fun h1 => ?_) (fun h1 => ?_)
  · rw [xb_ne h1] at next
    exact next
  · rw [xb_eq h1] at next
    have e1 : nI n + nI 1 = nI (n + b01 false) := nI_add n 1
    rw [← e1] at next
    exact next
set_option maxRecDepth 100000 in
set_option maxHeartbeats 4000000 in
theorem on_3 (S : cS) (Q : Int32) (WC : xC → xO → List Value → xA → Prop) (hW : xSys xL_X3_openNeighbours (xlk xfl3) (xlk xcl3) (xCt [(130, t_isSolid)]) (xRt (some .int) (fun vs aw' => vs = [.int Q] ∧ aw' = cW S)) WC) (x y : Int32) (n : Nat) (next : WC (xL_X3_openNeighbours.drop 34) [some (.ref 1), some (.int x), some (.int y), some (.int (nI (n + b01 (isSolB (cA S 11) (x) (y + nI 1)))))] [] (cW S)) : WC (xL_X3_openNeighbours.drop 26) [some (.ref 1), some (.int x), some (.int y), some (.int (nI n))] [] (cW S) := by
  refine hW.1 (fun pc => Nat.beq pc 58) 100 26 _ _ _ ?_
  refine ⟨S, rfl, ?_⟩
  refine And.intro (fun h1 => ?_) (fun h1 => ?_)
  · rw [xb_ne h1] at next
    exact next
  · rw [xb_eq h1] at next
    have e1 : nI n + nI 1 = nI (n + b01 false) := nI_add n 1
    rw [← e1] at next
    exact next
set_option maxRecDepth 100000 in
set_option maxHeartbeats 4000000 in
theorem n_openNeighbours (S : cS) (x y : Int32) : xMet l yX3_openNeighbours cX3_openNeighbours 4 (some .int) 2 D ad cy [.ref 1, .int x, .int y] (cW S) (fun vs aw' => vs = [.int (nI (opX (cA S 11) x y))] ∧ aw' = cW S) := by
  refine xmet (Fd := xlk xfl3) (Cn := xlk xcl3) (Cl := xCt [(130, t_isSolid)]) (by decide) xk_X3_openNeighbours xt_X3_openNeighbours ⟨_, _, rfl, rfl⟩ xpl3 (xEnt_ok (List.forall_mem_cons.mpr ⟨f_isSolid3 (by omega), fun q h => by cases h⟩)) (Nat.le_of_ble_eq_true rfl) (fun WC hW => ?_)
  have T : WC (xL_X3_openNeighbours.drop 2) [some (.ref 1), some (.int x), some (.int y), some (.int (nI 0))] [] (cW S) := by
    refine on_0 S _ WC hW x y 0 ?_
    refine on_1 S _ WC hW x y _ ?_
    refine on_2 S _ WC hW x y _ ?_
    refine on_3 S _ WC hW x y _ ?_
    refine hW.1 (fun _ => false) 100 34 _ _ _ ?_
    refine And.intro ?_ rfl
    unfold opX
    rw [Nat.zero_add]
  exact hW.1 (fun pc => Nat.beq pc 2) 100 0 _ _ _ T
def t_open (st : List Value) (aw : xA) (k : List Value → xA → Prop) : Prop := match st with
  | .int y :: .int x :: .ref 1 :: st => match xsm st with
    | true => ∃ S : cS, aw = cW S ∧ k (.int (nI (opX (cA S 11) x y)) :: st) (cW S)
    | false => False
  | _ => False
theorem f_open2 {d : Nat} (hd : 3 ≤ d) : xEnt l d D ad cy RX2 98 t_open := xEnt_V (y' := yX3_openNeighbours) (cc' := cX3_openNeighbours) (n' := 4) (ret' := some .int) (d' := 2) (j := 49) 2 (by decide +kernel) (by decide +kernel) (by omega) (fun st aw k h => by
  match st, h with
  | .int y :: .int x :: .ref 1 :: st, h =>
    cases hs : xsm st with
    | false => simp only [t_open, hs] at h
    | true =>
      simp only [t_open, hs] at h
      obtain ⟨S, rfl, h2⟩ := h
      exact ⟨[.int x, .int y], st, _, 1, 3, _, rfl, rfl, hs, rfl, ⟨_, rfl, rfl⟩, n_openNeighbours S x y, fun vs aw' h9 => by obtain ⟨rfl, rfl⟩ := h9; exact h2⟩)
end C8
