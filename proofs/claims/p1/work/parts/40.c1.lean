/-! the class's world: the box at 0, now 1, marked 2, oldU 3, oldV 4, newU 5, newV 6, the solver 7, the result 8 with its faces 9 and 10; rows from 11 on -/
/-- numbers of int, of double, of float; rows of boolean, of float, of double, by their places -/
abbrev cS : Type := (Nat → Int32) × (Nat → UInt64) × (Nat → UInt32) × (Nat → Nat → Int32) × (Nat → Nat → UInt32) × (Nat → Nat → UInt64)
abbrev cI (S : cS) (i : Nat) : Int32 := S.1 i
abbrev cG (S : cS) (i : Nat) : UInt64 := S.2.1 i
abbrev cH (S : cS) (i : Nat) : UInt32 := S.2.2.1 i
abbrev cA (S : cS) (p : Nat) : Nat → Int32 := S.2.2.2.1 p
abbrev cF (S : cS) (p : Nat) : Nat → UInt32 := S.2.2.2.2.1 p
abbrev cD (S : cS) (p : Nat) : Nat → UInt64 := S.2.2.2.2.2 p
abbrev cI' (S : cS) (i : Nat) (x : Int32) : cS := (mu S.1 i x, S.2.1, S.2.2.1, S.2.2.2.1, S.2.2.2.2.1, S.2.2.2.2.2)
abbrev cG' (S : cS) (i : Nat) (x : UInt64) : cS := (S.1, mu S.2.1 i x, S.2.2.1, S.2.2.2.1, S.2.2.2.2.1, S.2.2.2.2.2)
abbrev cH' (S : cS) (i : Nat) (x : UInt32) : cS := (S.1, S.2.1, mu S.2.2.1 i x, S.2.2.2.1, S.2.2.2.2.1, S.2.2.2.2.2)
abbrev cA' (S : cS) (p : Nat) (f : Nat → Int32) : cS := (S.1, S.2.1, S.2.2.1, mu S.2.2.2.1 p f, S.2.2.2.2.1, S.2.2.2.2.2)
abbrev cF' (S : cS) (p : Nat) (f : Nat → UInt32) : cS := (S.1, S.2.1, S.2.2.1, S.2.2.2.1, mu S.2.2.2.2.1 p f, S.2.2.2.2.2)
abbrev cD' (S : cS) (p : Nat) (f : Nat → UInt64) : cS := (S.1, S.2.1, S.2.2.1, S.2.2.2.1, S.2.2.2.2.1, mu S.2.2.2.2.2 p f)
/-- faces of u, of v, whose row lies at place q -/
abbrev faU (q : Nat) : va_E := .inr (0, [.int (nI 1), .int (nI 0), .int (nI 6), .int (nI 5), .double FP.dconst0, .double 4602678819172646912, .ref q])
abbrev faV (q : Nat) : va_E := .inr (0, [.int (nI 0), .int (nI 1), .int (nI 5), .int (nI 6), .double 4602678819172646912, .double FP.dconst0, .ref q])
def cW (S : cS) : xA := [
  .inr (4, [.ref 1, .ref 2, .ref 3, .ref 4, .ref 5, .ref 6, .ref 7, .ref 8, .int (cI S 4), .int (cI S 5)]),
  .inr (3, [.double (cG S 0), .float (cH S 0), .double (cG S 1), .int (cI S 0), .ref 11, .int (cI S 1), .ref 12, .ref 13, .ref 14, .ref 15]),
  .inr (3, [.double (cG S 2), .float (cH S 1), .double (cG S 3), .int (cI S 2), .ref 16, .int (cI S 3), .ref 17, .ref 18, .ref 19, .ref 20]),
  faU 21, faV 22, faU 23, faV 24,
  .inr (2, [.ref 27, .ref 28, .ref 29, .ref 30, .ref 31, .ref 32, .ref 33, .ref 34]),
  .inr (1, [.ref 9, .ref 10, .ref 35, .double (cG S 4)]),
  faU 25, faV 26,
  aZ 36 (cA S 11), aF 24 (cF S 12), aF 24 (cF S 13), aF 24 (cF S 14), aF 24 (cF S 15), aZ 36 (cA S 16), aF 24 (cF S 17), aF 24 (cF S 18), aF 24 (cF S 19), aF 24 (cF S 20),
  aD 49 (cD S 21), aD 49 (cD S 22), aD 49 (cD S 23), aD 49 (cD S 24), aD 49 (cD S 25), aD 49 (cD S 26),
  aZ 36 (cA S 27), aD 36 (cD S 28), aD 36 (cD S 29), aD 36 (cD S 30), aD 36 (cD S 31), aD 36 (cD S 32), aD 36 (cD S 33), aD 36 (cD S 34), aD 36 (cD S 35)]
def hoF (x : UInt32) : UInt32 := if 0 ≤ cvf x 1031798784 .g then (if cvf x 1086193664 .l ≤ 0 then x else 1086193664) else 1031798784
def plB (x lo hi : UInt32) : Bool := if cvf x lo .l < 0 then false else if 0 < cvf x hi .g then false else true
def hpB (X Y : Nat → UInt32) (i j : Int32) : Nat → Bool
  | 0 => false
  | k + 1 => hpB X Y i j k || (decide (FP.f2i (X k) = i) && decide (FP.f2i (Y k) = j))
def flB (sol : Nat → Int32) (X Y : Nat → UInt32) (np : Nat) (i j : Int32) : Bool := !isSolB sol i j && hpB X Y i j np
section C1
variable {l : Launch} {D : va_G} {ad : Nat → Nat} {cy : Nat → ClassId}
set_option maxRecDepth 100000 in
set_option maxHeartbeats 4000000 in
theorem n_isCell (x y : Int32) (aw : xA) : xMet l yX4_isCell cX4_isCell 2 (some .boolean) 0 D ad cy [.int x, .int y] aw (fun vs aw' => vs = [.int (xb (inB x y))] ∧ aw' = aw) := by
  refine xmet (Fd := xlk xfl4) (Cn := xlk xcl4) (Cl := xCt []) (by decide) xk_X4_isCell xt_X4_isCell ⟨_, _, rfl, rfl⟩ xpl4 (xEnt_ok (fun q h => by cases h)) (Nat.le_of_ble_eq_true rfl) (fun WC hW => ?_)
  refine hW.1 (fun _ => false) 100 0 _ _ _ ?_
  refine And.intro (fun h1 => ?_) (fun h1 => ?_)
  · exact Exists.intro false ⟨rfl, by simp [inB, h1], rfl⟩
  refine And.intro (fun h2 => ?_) (fun h2 => ?_)
  · exact Exists.intro false ⟨rfl, by simp [inB, h1, h2], rfl⟩
  refine And.intro (fun h3 => ?_) (fun h3 => ?_)
  · exact Exists.intro false ⟨rfl, by simp [inB, h1, h2, h3], rfl⟩
  refine And.intro (fun h4 => ?_) (fun h4 => ?_)
  · exact Exists.intro false ⟨rfl, by simp [inB, h1, h2, h3, h4], rfl⟩
  · exact Exists.intro true ⟨rfl, by simp [inB, h1, h2, h3, h4], rfl⟩
def t_isCell (st : List Value) (aw : xA) (k : List Value → xA → Prop) : Prop := match st with
  | .int y :: .int x :: st => match xsm st with
    | true => k (.int (xb (inB x y)) :: st) aw
    | false => False
  | _ => False
theorem f_isCell4 {d : Nat} (hd : 1 ≤ d) : xEnt l d D ad cy RX4 117 t_isCell := xEnt_S (y' := yX4_isCell) (cc' := cX4_isCell) (n' := 2) (ret' := some .boolean) (d' := 0) (j := 58) 2 (by decide +kernel) (by decide +kernel) (by omega) (fun st aw k h => by
  match st, h with
  | .int y :: .int x :: st, h =>
    cases hs : xsm st with
    | false => simp only [t_isCell, hs] at h
    | true =>
      simp only [t_isCell, hs] at h
      exact ⟨[.int x, .int y], st, _, rfl, rfl, hs, n_isCell x y aw, fun vs aw' h9 => by obtain ⟨rfl, rfl⟩ := h9; exact h⟩)
theorem f_isCell3 {d : Nat} (hd : 1 ≤ d) : xEnt l d D ad cy RX3 115 t_isCell := xEnt_SN (host := RX4) (y' := yX4_isCell) (cc' := cX4_isCell) (n' := 2) (ret' := some .boolean) (d' := 0) (j := 57) 2 (by decide +kernel) (by decide +kernel) (by decide +kernel) (by omega) (fun st aw k h => by
  match st, h with
  | .int y :: .int x :: st, h =>
    cases hs : xsm st with
    | false => simp only [t_isCell, hs] at h
    | true =>
      simp only [t_isCell, hs] at h
      exact ⟨[.int x, .int y], st, _, rfl, rfl, hs, n_isCell x y aw, fun vs aw' h9 => by obtain ⟨rfl, rfl⟩ := h9; exact h⟩)
theorem f_isCell2 {d : Nat} (hd : 1 ≤ d) : xEnt l d D ad cy RX2 75 t_isCell := xEnt_SN (host := RX4) (y' := yX4_isCell) (cc' := cX4_isCell) (n' := 2) (ret' := some .boolean) (d' := 0) (j := 37) 2 (by decide +kernel) (by decide +kernel) (by decide +kernel) (by omega) (fun st aw k h => by
  match st, h with
  | .int y :: .int x :: st, h =>
    cases hs : xsm st with
    | false => simp only [t_isCell, hs] at h
    | true =>
      simp only [t_isCell, hs] at h
      exact ⟨[.int x, .int y], st, _, rfl, rfl, hs, n_isCell x y aw, fun vs aw' h9 => by obtain ⟨rfl, rfl⟩ := h9; exact h⟩)
set_option maxRecDepth 100000 in
set_option maxHeartbeats 4000000 in
theorem n_cellIndex (x y : Int32) (aw : xA) : xMet l yX4_cellIndex cX4_cellIndex 2 (some .int) 0 D ad cy [.int x, .int y] aw (fun vs aw' => vs = [.int (y * nI 6 + x)] ∧ aw' = aw) := by
  refine xmet (Fd := xlk xfl4) (Cn := xlk xcl4) (Cl := xCt []) (by decide) xk_X4_cellIndex xt_X4_cellIndex ⟨_, _, rfl, rfl⟩ xpl4 (xEnt_ok (fun q h => by cases h)) (Nat.le_of_ble_eq_true rfl) (fun WC hW => ?_)
  refine hW.1 (fun _ => false) 100 0 _ _ _ ?_
  exact And.intro rfl rfl
def t_cellIndex (st : List Value) (aw : xA) (k : List Value → xA → Prop) : Prop := match st with
  | .int y :: .int x :: st => match xsm st with
    | true => k (.int (y * nI 6 + x) :: st) aw
    | false => False
  | _ => False
theorem f_cellIndex4 {d : Nat} (hd : 1 ≤ d) : xEnt l d D ad cy RX4 169 t_cellIndex := xEnt_S (y' := yX4_cellIndex) (cc' := cX4_cellIndex) (n' := 2) (ret' := some .int) (d' := 0) (j := 84) 2 (by decide +kernel) (by decide +kernel) (by omega) (fun st aw k h => by
  match st, h with
  | .int y :: .int x :: st, h =>
    cases hs : xsm st with
    | false => simp only [t_cellIndex, hs] at h
    | true =>
      simp only [t_cellIndex, hs] at h
      exact ⟨[.int x, .int y], st, _, rfl, rfl, hs, n_cellIndex x y aw, fun vs aw' h9 => by obtain ⟨rfl, rfl⟩ := h9; exact h⟩)
theorem f_cellIndex3 {d : Nat} (hd : 1 ≤ d) : xEnt l d D ad cy RX3 123 t_cellIndex := xEnt_SN (host := RX4) (y' := yX4_cellIndex) (cc' := cX4_cellIndex) (n' := 2) (ret' := some .int) (d' := 0) (j := 61) 2 (by decide +kernel) (by decide +kernel) (by decide +kernel) (by omega) (fun st aw k h => by
  match st, h with
  | .int y :: .int x :: st, h =>
    cases hs : xsm st with
    | false => simp only [t_cellIndex, hs] at h
    | true =>
      simp only [t_cellIndex, hs] at h
      exact ⟨[.int x, .int y], st, _, rfl, rfl, hs, n_cellIndex x y aw, fun vs aw' h9 => by obtain ⟨rfl, rfl⟩ := h9; exact h⟩)
theorem f_cellIndex2 {d : Nat} (hd : 1 ≤ d) : xEnt l d D ad cy RX2 83 t_cellIndex := xEnt_SN (host := RX4) (y' := yX4_cellIndex) (cc' := cX4_cellIndex) (n' := 2) (ret' := some .int) (d' := 0) (j := 41) 2 (by decide +kernel) (by decide +kernel) (by decide +kernel) (by omega) (fun st aw k h => by
  match st, h with
  | .int y :: .int x :: st, h =>
    cases hs : xsm st with
    | false => simp only [t_cellIndex, hs] at h
    | true =>
      simp only [t_cellIndex, hs] at h
      exact ⟨[.int x, .int y], st, _, rfl, rfl, hs, n_cellIndex x y aw, fun vs aw' h9 => by obtain ⟨rfl, rfl⟩ := h9; exact h⟩)
set_option maxRecDepth 100000 in
set_option maxHeartbeats 4000000 in
theorem n_faceIndex (x y : Int32) (aw : xA) : xMet l yX4_faceIndex cX4_faceIndex 2 (some .int) 0 D ad cy [.int x, .int y] aw (fun vs aw' => vs = [.int (y * nI 7 + x)] ∧ aw' = aw) := by
  refine xmet (Fd := xlk xfl4) (Cn := xlk xcl4) (Cl := xCt []) (by decide) xk_X4_faceIndex xt_X4_faceIndex ⟨_, _, rfl, rfl⟩ xpl4 (xEnt_ok (fun q h => by cases h)) (Nat.le_of_ble_eq_true rfl) (fun WC hW => ?_)
  refine hW.1 (fun _ => false) 100 0 _ _ _ ?_
  exact And.intro rfl rfl
def t_faceIndex (st : List Value) (aw : xA) (k : List Value → xA → Prop) : Prop := match st with
  | .int y :: .int x :: st => match xsm st with
    | true => k (.int (y * nI 7 + x) :: st) aw
    | false => False
  | _ => False
theorem f_faceIndex4 {d : Nat} (hd : 1 ≤ d) : xEnt l d D ad cy RX4 411 t_faceIndex := xEnt_S (y' := yX4_faceIndex) (cc' := cX4_faceIndex) (n' := 2) (ret' := some .int) (d' := 0) (j := 205) 2 (by decide +kernel) (by decide +kernel) (by omega) (fun st aw k h => by
  match st, h with
  | .int y :: .int x :: st, h =>
    cases hs : xsm st with
    | false => simp only [t_faceIndex, hs] at h
    | true =>
      simp only [t_faceIndex, hs] at h
      exact ⟨[.int x, .int y], st, _, rfl, rfl, hs, n_faceIndex x y aw, fun vs aw' h9 => by obtain ⟨rfl, rfl⟩ := h9; exact h⟩)
theorem f_faceIndex0 {d : Nat} (hd : 1 ≤ d) : xEnt l d D ad cy RX0 87 t_faceIndex := xEnt_SN (host := RX4) (y' := yX4_faceIndex) (cc' := cX4_faceIndex) (n' := 2) (ret' := some .int) (d' := 0) (j := 43) 2 (by decide +kernel) (by decide +kernel) (by decide +kernel) (by omega) (fun st aw k h => by
  match st, h with
  | .int y :: .int x :: st, h =>
    cases hs : xsm st with
    | false => simp only [t_faceIndex, hs] at h
    | true =>
      simp only [t_faceIndex, hs] at h
      exact ⟨[.int x, .int y], st, _, rfl, rfl, hs, n_faceIndex x y aw, fun vs aw' h9 => by obtain ⟨rfl, rfl⟩ := h9; exact h⟩)
theorem f_faceIndex2 {d : Nat} (hd : 1 ≤ d) : xEnt l d D ad cy RX2 133 t_faceIndex := xEnt_SN (host := RX4) (y' := yX4_faceIndex) (cc' := cX4_faceIndex) (n' := 2) (ret' := some .int) (d' := 0) (j := 66) 2 (by decide +kernel) (by decide +kernel) (by decide +kernel) (by omega) (fun st aw k h => by
  match st, h with
  | .int y :: .int x :: st, h =>
    cases hs : xsm st with
    | false => simp only [t_faceIndex, hs] at h
    | true =>
      simp only [t_faceIndex, hs] at h
      exact ⟨[.int x, .int y], st, _, rfl, rfl, hs, n_faceIndex x y aw, fun vs aw' h9 => by obtain ⟨rfl, rfl⟩ := h9; exact h⟩)
set_option maxRecDepth 100000 in
set_option maxHeartbeats 4000000 in
theorem n_isPlace (x : UInt32) (aw : xA) : xMet l yX4_isPlace cX4_isPlace 1 (some .boolean) 0 D ad cy [.float x] aw (fun vs aw' => vs = [.int (xb (plB x 1031798784 1086193664))] ∧ aw' = aw) := by
  refine xmet (Fd := xlk xfl4) (Cn := xlk xcl4) (Cl := xCt []) (by decide) xk_X4_isPlace xt_X4_isPlace ⟨_, _, rfl, rfl⟩ xpl4 (xEnt_ok (fun q h => by cases h)) (Nat.le_of_ble_eq_true rfl) (fun WC hW => ?_)
  refine hW.1 (fun _ => false) 100 0 _ _ _ ?_
  refine And.intro (fun h1 => ?_) (fun h1 => ?_)
  · exact Exists.intro false ⟨rfl, by unfold plB; rw [if_pos h1], rfl⟩
  refine And.intro (fun h2 => ?_) (fun h2 => ?_)
  · exact Exists.intro false ⟨rfl, by unfold plB; rw [if_neg h1, if_pos h2], rfl⟩
  · exact Exists.intro true ⟨rfl, by unfold plB; rw [if_neg h1, if_neg h2], rfl⟩
def t_isPlace (st : List Value) (aw : xA) (k : List Value → xA → Prop) : Prop := match st with
  | .float x :: st => match xsm st with
    | true => k (.int (xb (plB x 1031798784 1086193664)) :: st) aw
    | false => False
  | _ => False
theorem f_isPlace {d : Nat} (hd : 1 ≤ d) : xEnt l d D ad cy RX4 177 t_isPlace := xEnt_S (y' := yX4_isPlace) (cc' := cX4_isPlace) (n' := 1) (ret' := some .boolean) (d' := 0) (j := 88) 1 (by decide +kernel) (by decide +kernel) (by omega) (fun st aw k h => by
  match st, h with
  | .float x :: st, h =>
    cases hs : xsm st with
    | false => simp only [t_isPlace, hs] at h
    | true =>
      simp only [t_isPlace, hs] at h
      exact ⟨[.float x], st, _, rfl, rfl, hs, n_isPlace x aw, fun vs aw' h9 => by obtain ⟨rfl, rfl⟩ := h9; exact h⟩)
set_option maxRecDepth 100000 in
set_option maxHeartbeats 4000000 in
theorem n_isSpeed (x : UInt32) (aw : xA) : xMet l yX4_isSpeed cX4_isSpeed 1 (some .boolean) 0 D ad cy [.float x] aw (fun vs aw' => vs = [.int (xb (plB x 3238002688 1090519040))] ∧ aw' = aw) := by
  refine xmet (Fd := xlk xfl4) (Cn := xlk xcl4) (Cl := xCt []) (by decide) xk_X4_isSpeed xt_X4_isSpeed ⟨_, _, rfl, rfl⟩ xpl4 (xEnt_ok (fun q h => by cases h)) (Nat.le_of_ble_eq_true rfl) (fun WC hW => ?_)
  refine hW.1 (fun _ => false) 100 0 _ _ _ ?_
  refine And.intro (fun h1 => ?_) (fun h1 => ?_)
  · exact Exists.intro false ⟨rfl, by unfold plB; rw [if_pos h1], rfl⟩
  refine And.intro (fun h2 => ?_) (fun h2 => ?_)
  · exact Exists.intro false ⟨rfl, by unfold plB; rw [if_neg h1, if_pos h2], rfl⟩
  · exact Exists.intro true ⟨rfl, by unfold plB; rw [if_neg h1, if_neg h2], rfl⟩
def t_isSpeed (st : List Value) (aw : xA) (k : List Value → xA → Prop) : Prop := match st with
  | .float x :: st => match xsm st with
    | true => k (.int (xb (plB x 3238002688 1090519040)) :: st) aw
    | false => False
  | _ => False
theorem f_isSpeed {d : Nat} (hd : 1 ≤ d) : xEnt l d D ad cy RX4 185 t_isSpeed := xEnt_S (y' := yX4_isSpeed) (cc' := cX4_isSpeed) (n' := 1) (ret' := some .boolean) (d' := 0) (j := 92) 1 (by decide +kernel) (by decide +kernel) (by omega) (fun st aw k h => by
  match st, h with
  | .float x :: st, h =>
    cases hs : xsm st with
    | false => simp only [t_isSpeed, hs] at h
    | true =>
      simp only [t_isSpeed, hs] at h
      exact ⟨[.float x], st, _, rfl, rfl, hs, n_isSpeed x aw, fun vs aw' h9 => by obtain ⟨rfl, rfl⟩ := h9; exact h⟩)
set_option maxRecDepth 100000 in
set_option maxHeartbeats 4000000 in
theorem n_holdInBox (x : UInt32) (aw : xA) : xMet l yX4_holdInBox cX4_holdInBox 1 (some .float) 0 D ad cy [.float x] aw (fun vs aw' => vs = [.float (hoF x)] ∧ aw' = aw) := by
  refine xmet (Fd := xlk xfl4) (Cn := xlk xcl4) (Cl := xCt []) (by decide) xk_X4_holdInBox xt_X4_holdInBox ⟨_, _, rfl, rfl⟩ xpl4 (xEnt_ok (fun q h => by cases h)) (Nat.le_of_ble_eq_true rfl) (fun WC hW => ?_)
  refine hW.1 (fun _ => false) 100 0 _ _ _ ?_
  refine And.intro (fun h1 => ?_) (fun h1 => ?_)
  · refine And.intro (fun h2 => ?_) (fun h2 => ?_)
    · exact And.intro (by unfold hoF; rw [if_pos h1, if_pos h2]) rfl
    · exact And.intro (by unfold hoF; rw [if_pos h1, if_neg h2]) rfl
  · exact And.intro (by unfold hoF; rw [if_neg h1]) rfl
def t_holdInBox (st : List Value) (aw : xA) (k : List Value → xA → Prop) : Prop := match st with
  | .float x :: st => match xsm st with
    | true => k (.float (hoF x) :: st) aw
    | false => False
  | _ => False
theorem f_holdInBox {d : Nat} (hd : 1 ≤ d) : xEnt l d D ad cy RX4 481 t_holdInBox := xEnt_S (y' := yX4_holdInBox) (cc' := cX4_holdInBox) (n' := 1) (ret' := some .float) (d' := 0) (j := 240) 1 (by decide +kernel) (by decide +kernel) (by omega) (fun st aw k h => by
  match st, h with
  | .float x :: st, h =>
    cases hs : xsm st with
    | false => simp only [t_holdInBox, hs] at h
    | true =>
      simp only [t_holdInBox, hs] at h
      exact ⟨[.float x], st, _, rfl, rfl, hs, n_holdInBox x aw, fun vs aw' h9 => by obtain ⟨rfl, rfl⟩ := h9; exact h⟩)
set_option maxRecDepth 100000 in
set_option maxHeartbeats 4000000 in
theorem n_isSolid (S : cS) (x y : Int32) : xMet l yX3_isSolid cX3_isSolid 3 (some .boolean) 1 D ad cy [.ref 1, .int x, .int y] (cW S) (fun vs aw' => vs = [.int (xb (isSolB (cA S 11) x y))] ∧ aw' = cW S) := by
  refine xmet (Fd := xlk xfl3) (Cn := xlk xcl3) (Cl := xCt [(115, t_isCell), (123, t_cellIndex)]) (by decide) xk_X3_isSolid xt_X3_isSolid ⟨_, _, rfl, rfl⟩ xpl3 (xEnt_ok (List.forall_mem_cons.mpr ⟨f_isCell3 (by omega), List.forall_mem_cons.mpr ⟨f_cellIndex3 (by omega), fun q h => by cases h⟩⟩)) (Nat.le_of_ble_eq_true rfl) (fun WC hW => ?_)
  refine hW.1 (fun _ => false) 100 0 _ _ _ ?_
  refine And.intro (fun h1 => ?_) (fun h1 => ?_)
  · have hi : inB x y = false := xb_eq h1
    exact Exists.intro true ⟨rfl, by simp [isSolB, hi], rfl⟩
  have hi : inB x y = true := xb_ne h1
  obtain ⟨i, j, hi6, hj6, rfl, rfl⟩ := inB_nI hi
  refine ⟨6 * j + i, by rw [pk_mul, nI_add, Nat.mul_comm], by omega, by decide, ?_⟩
  have e1 : isSolB (cA S 11) (nI i) (nI j) = decide (cA S 11 (6 * j + i) ≠ 0) := by simp [isSolB, hi, nI_clamp (show i < 2 ^ 31 by omega), nI_clamp (show j < 2 ^ 31 by omega)]
  refine And.intro (fun h2 => ?_) (fun h2 => ?_)
  · exact Exists.intro false ⟨rfl, by rw [e1]; simp [h2], rfl⟩
  · exact Exists.intro true ⟨rfl, by rw [e1]; simp [h2], rfl⟩
def t_isSolid (st : List Value) (aw : xA) (k : List Value → xA → Prop) : Prop := match st with
  | .int y :: .int x :: .ref 1 :: st => match xsm st with
    | true => ∃ S : cS, aw = cW S ∧ k (.int (xb (isSolB (cA S 11) x y)) :: st) (cW S)
    | false => False
  | _ => False
theorem f_isSolid0 {d : Nat} (hd : 2 ≤ d) : xEnt l d D ad cy RX0 146 t_isSolid := xEnt_V (y' := yX3_isSolid) (cc' := cX3_isSolid) (n' := 3) (ret' := some .boolean) (d' := 1) (j := 73) 2 (by decide +kernel) (by decide +kernel) (by omega) (fun st aw k h => by
  match st, h with
  | .int y :: .int x :: .ref 1 :: st, h =>
    cases hs : xsm st with
    | false => simp only [t_isSolid, hs] at h
    | true =>
      simp only [t_isSolid, hs] at h
      obtain ⟨S, rfl, h2⟩ := h
      exact ⟨[.int x, .int y], st, _, 1, 3, _, rfl, rfl, hs, rfl, ⟨_, rfl, rfl⟩, n_isSolid S x y, fun vs aw' h9 => by obtain ⟨rfl, rfl⟩ := h9; exact h2⟩)
theorem f_isSolid3 {d : Nat} (hd : 2 ≤ d) : xEnt l d D ad cy RX3 130 t_isSolid := xEnt_V (y' := yX3_isSolid) (cc' := cX3_isSolid) (n' := 3) (ret' := some .boolean) (d' := 1) (j := 65) 2 (by decide +kernel) (by decide +kernel) (by omega) (fun st aw k h => by
  match st, h with
  | .int y :: .int x :: .ref 1 :: st, h =>
    cases hs : xsm st with
    | false => simp only [t_isSolid, hs] at h
    | true =>
      simp only [t_isSolid, hs] at h
      obtain ⟨S, rfl, h2⟩ := h
      exact ⟨[.int x, .int y], st, _, 1, 3, _, rfl, rfl, hs, rfl, ⟨_, rfl, rfl⟩, n_isSolid S x y, fun vs aw' h9 => by obtain ⟨rfl, rfl⟩ := h9; exact h2⟩)
theorem f_isSolid4 {d : Nat} (hd : 2 ≤ d) : xEnt l d D ad cy RX4 154 t_isSolid := xEnt_V (y' := yX3_isSolid) (cc' := cX3_isSolid) (n' := 3) (ret' := some .boolean) (d' := 1) (j := 77) 2 (by decide +kernel) (by decide +kernel) (by omega) (fun st aw k h => by
  match st, h with
  | .int y :: .int x :: .ref 1 :: st, h =>
    cases hs : xsm st with
    | false => simp only [t_isSolid, hs] at h
    | true =>
      simp only [t_isSolid, hs] at h
      obtain ⟨S, rfl, h2⟩ := h
      exact ⟨[.int x, .int y], st, _, 1, 3, _, rfl, rfl, hs, rfl, ⟨_, rfl, rfl⟩, n_isSolid S x y, fun vs aw' h9 => by obtain ⟨rfl, rfl⟩ := h9; exact h2⟩)
set_option maxRecDepth 100000 in
set_option maxHeartbeats 4000000 in
theorem n_hasParticleIn (S : cS) (np : Nat) (hnp : cI S 1 = nI np) (h24 : np ≤ 24) (x y : Int32) : xMet l yX3_hasParticleIn cX3_hasParticleIn 4 (some .boolean) 0 D ad cy [.ref 1, .int x, .int y] (cW S) (fun vs aw' => vs = [.int (xb (hpB (cF S 12) (cF S 13) x y np))] ∧ aw' = cW S) := by
  refine xmet (Fd := xlk xfl3) (Cn := xlk xcl3) (Cl := xCt []) (by decide) xk_X3_hasParticleIn xt_X3_hasParticleIn ⟨_, _, rfl, rfl⟩ xpl3 (xEnt_ok (fun q h => by cases h)) (Nat.le_of_ble_eq_true rfl) (fun WC hW => ?_)
  have loop : ∀ (n k : Nat), k + n = np → hpB (cF S 12) (cF S 13) x y k = false → WC (xL_X3_hasParticleIn.drop 2) [some (.ref 1), some (.int x), some (.int y), some (.int (nI k))] [] (cW S) := by
    intro n
    induction n with
    | zero =>
      intro k hk hno
      have : k = np := by omega
      subst this
      refine hW.1 (fun pc => Nat.beq pc 2) 100 2 _ _ _ ?_
      refine And.intro (fun h1 => ?_) (fun h1 => absurd ?_ h1)
      · exact Exists.intro false ⟨rfl, by rw [hno], rfl⟩
      · show cI S 1 ≤ nI k
        rw [hnp]
        exact Int32.le_refl _
    | succ n ih =>
      intro k hk hno
      have ih' := ih (k + 1) (by omega)
      have e1 : nI k + nI 1 = nI (k + 1) := nI_add k 1
      rw [← e1] at ih'
      have hlt : ¬ cI S 1 ≤ nI k := by rw [hnp]; exact nI_ge (by omega) (by omega)
      have hs : hpB (cF S 12) (cF S 13) x y (k + 1) = (decide (FP.f2i (cF S 12 k) = x) && decide (FP.f2i (cF S 13 k) = y)) := by show (_ || _) = _; rw [hno]; rfl
      refine hW.1 (fun pc => Nat.beq pc 2) 100 2 _ _ _ ?_
      refine And.intro (fun h1 => absurd h1 hlt) (fun h1 => ?_)
      refine ⟨k, rfl, by omega, by decide, ?_⟩
      refine And.intro (fun h2 => ?_) (fun h2 => ?_)
      · exact ih' (by rw [hs, decide_eq_false h2]; rfl)
      refine ⟨k, rfl, by omega, by decide, ?_⟩
      refine And.intro (fun h3 => ?_) (fun h3 => ?_)
      · exact ih' (by rw [hs, decide_eq_false h3, Bool.and_false])
      · refine Exists.intro true ⟨rfl, ?_, rfl⟩
        have hone : hpB (cF S 12) (cF S 13) x y (k + 1) = true := by rw [hs, decide_eq_true h2, decide_eq_true h3]; rfl
        have hup : ∀ m, hpB (cF S 12) (cF S 13) x y (k + 1 + m) = true := by
          intro m
          induction m with
          | zero => exact hone
          | succ m ihm => show (hpB (cF S 12) (cF S 13) x y (k + 1 + m) || _) = true; rw [ihm]; exact Bool.true_or _
        have h9 := hup n
        rw [show k + 1 + n = np by omega] at h9
        rw [h9]
  exact hW.1 (fun pc => Nat.beq pc 2) 100 0 _ _ _ (loop np 0 (by omega) rfl)
def t_hasP (st : List Value) (aw : xA) (k : List Value → xA → Prop) : Prop := match st with
  | .int y :: .int x :: .ref 1 :: st => match xsm st with
    | true => ∃ (S : cS) (np : Nat), aw = cW S ∧ cI S 1 = nI np ∧ np ≤ 24 ∧ k (.int (xb (hpB (cF S 12) (cF S 13) x y np)) :: st) (cW S)
    | false => False
  | _ => False
theorem f_hasP3 {d : Nat} (hd : 1 ≤ d) : xEnt l d D ad cy RX3 136 t_hasP := xEnt_V (y' := yX3_hasParticleIn) (cc' := cX3_hasParticleIn) (n' := 4) (ret' := some .boolean) (d' := 0) (j := 68) 2 (by decide +kernel) (by decide +kernel) (by omega) (fun st aw k h => by
  match st, h with
  | .int y :: .int x :: .ref 1 :: st, h =>
    cases hs : xsm st with
    | false => simp only [t_hasP, hs] at h
    | true =>
      simp only [t_hasP, hs] at h
      obtain ⟨S, np, rfl, hnp, h24, h2⟩ := h
      exact ⟨[.int x, .int y], st, _, 1, 3, _, rfl, rfl, hs, rfl, ⟨_, rfl, rfl⟩, n_hasParticleIn S np hnp h24 x y, fun vs aw' h9 => by obtain ⟨rfl, rfl⟩ := h9; exact h2⟩)
theorem f_hasP4 {d : Nat} (hd : 1 ≤ d) : xEnt l d D ad cy RX4 138 t_hasP := xEnt_V (y' := yX3_hasParticleIn) (cc' := cX3_hasParticleIn) (n' := 4) (ret' := some .boolean) (d' := 0) (j := 69) 2 (by decide +kernel) (by decide +kernel) (by omega) (fun st aw k h => by
  match st, h with
  | .int y :: .int x :: .ref 1 :: st, h =>
    cases hs : xsm st with
    | false => simp only [t_hasP, hs] at h
    | true =>
      simp only [t_hasP, hs] at h
      obtain ⟨S, np, rfl, hnp, h24, h2⟩ := h
      exact ⟨[.int x, .int y], st, _, 1, 3, _, rfl, rfl, hs, rfl, ⟨_, rfl, rfl⟩, n_hasParticleIn S np hnp h24 x y, fun vs aw' h9 => by obtain ⟨rfl, rfl⟩ := h9; exact h2⟩)
set_option maxRecDepth 100000 in
set_option maxHeartbeats 4000000 in
theorem n_isFluid (S : cS) (np : Nat) (hnp : cI S 1 = nI np) (h24 : np ≤ 24) (x y : Int32) : xMet l yX3_isFluid cX3_isFluid 3 (some .boolean) 2 D ad cy [.ref 1, .int x, .int y] (cW S) (fun vs aw' => vs = [.int (xb (flB (cA S 11) (cF S 12) (cF S 13) np x y))] ∧ aw' = cW S) := by
  refine xmet (Fd := xlk xfl3) (Cn := xlk xcl3) (Cl := xCt [(130, t_isSolid), (136, t_hasP)]) (by decide) xk_X3_isFluid xt_X3_isFluid ⟨_, _, rfl, rfl⟩ xpl3 (xEnt_ok (List.forall_mem_cons.mpr ⟨f_isSolid3 (by omega), List.forall_mem_cons.mpr ⟨f_hasP3 (by omega), fun q h => by cases h⟩⟩)) (Nat.le_of_ble_eq_true rfl) (fun WC hW => ?_)
  refine hW.1 (fun _ => false) 100 0 _ _ _ ?_
  refine ⟨S, rfl, ?_⟩
  refine And.intro (fun h1 => ?_) (fun h1 => ?_)
  · exact Exists.intro false ⟨rfl, by unfold flB; rw [xb_ne h1]; rfl, rfl⟩
  refine ⟨S, np, rfl, hnp, h24, ?_⟩
  refine And.intro (fun h2 => ?_) (fun h2 => ?_)
  · exact Exists.intro false ⟨rfl, by unfold flB; rw [xb_eq h1, xb_eq h2]; rfl, rfl⟩
  · exact Exists.intro true ⟨rfl, by unfold flB; rw [xb_eq h1, xb_ne h2]; rfl, rfl⟩
def t_isFluid (st : List Value) (aw : xA) (k : List Value → xA → Prop) : Prop := match st with
  | .int y :: .int x :: .ref 1 :: st => match xsm st with
    | true => ∃ (S : cS) (np : Nat), aw = cW S ∧ cI S 1 = nI np ∧ np ≤ 24 ∧ k (.int (xb (flB (cA S 11) (cF S 12) (cF S 13) np x y)) :: st) (cW S)
    | false => False
  | _ => False
theorem f_isFluid3 {d : Nat} (hd : 3 ≤ d) : xEnt l d D ad cy RX3 142 t_isFluid := xEnt_V (y' := yX3_isFluid) (cc' := cX3_isFluid) (n' := 3) (ret' := some .boolean) (d' := 2) (j := 71) 2 (by decide +kernel) (by decide +kernel) (by omega) (fun st aw k h => by
  match st, h with
  | .int y :: .int x :: .ref 1 :: st, h =>
    cases hs : xsm st with
    | false => simp only [t_isFluid, hs] at h
    | true =>
      simp only [t_isFluid, hs] at h
      obtain ⟨S, np, rfl, hnp, h24, h2⟩ := h
      exact ⟨[.int x, .int y], st, _, 1, 3, _, rfl, rfl, hs, rfl, ⟨_, rfl, rfl⟩, n_isFluid S np hnp h24 x y, fun vs aw' h9 => by obtain ⟨rfl, rfl⟩ := h9; exact h2⟩)
theorem f_isFluid2 {d : Nat} (hd : 3 ≤ d) : xEnt l d D ad cy RX2 108 t_isFluid := xEnt_V (y' := yX3_isFluid) (cc' := cX3_isFluid) (n' := 3) (ret' := some .boolean) (d' := 2) (j := 54) 2 (by decide +kernel) (by decide +kernel) (by omega) (fun st aw k h => by
  match st, h with
  | .int y :: .int x :: .ref 1 :: st, h =>
    cases hs : xsm st with
    | false => simp only [t_isFluid, hs] at h
    | true =>
      simp only [t_isFluid, hs] at h
      obtain ⟨S, np, rfl, hnp, h24, h2⟩ := h
      exact ⟨[.int x, .int y], st, _, 1, 3, _, rfl, rfl, hs, rfl, ⟨_, rfl, rfl⟩, n_isFluid S np hnp h24 x y, fun vs aw' h9 => by obtain ⟨rfl, rfl⟩ := h9; exact h2⟩)
end C1
