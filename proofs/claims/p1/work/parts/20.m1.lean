/-! the reference: its small methods -/
def inB (x y : Int32) : Bool := if x < 0 then false else if nI 6 ≤ x then false else if y < 0 then false else if nI 6 ≤ y then false else true
section M1
variable {l : Launch} {D : va_G} {ad : Nat → Nat} {cy : Nat → ClassId}
set_option maxRecDepth 100000 in
theorem m_inBox (x y : Int32) (aw : xA) : xMet l yX5_inBox cX5_inBox 2 (some .boolean) 0 D ad cy [.int x, .int y] aw (fun vs aw' => vs = [.int (xb (inB x y))] ∧ aw' = aw) := by
  refine xmet (Fd := xlk xfl5) (Cn := xlk xcl5) (Cl := xCt []) (by decide) xk_X5_inBox xt_X5_inBox ⟨_, _, rfl, rfl⟩ xpl5 (xEnt_ok (fun q h => by cases h)) (Nat.le_of_ble_eq_true rfl) (fun WC hW => ?_)
  refine hW.1 (fun _ => false) 100 0 _ _ _ ?_
  refine And.intro (fun h1 => ?_) (fun h1 => ?_)
  · exact Exists.intro false ⟨rfl, by simp [inB, h1], rfl⟩
  refine And.intro (fun h2 => ?_) (fun h2 => ?_)
  · exact Exists.intro false ⟨rfl, by simp [inB, h1, h2], rfl⟩
  refine And.intro (fun h3 => ?_) (fun h3 => ?_)
  · exact Exists.intro false ⟨rfl, by simp [inB, h1, h2, h3], rfl⟩
  refine And.intro (fun h4 => ?_) (fun h4 => ?_)
  · exact Exists.intro false ⟨rfl, by simp [inB, h1, h2, h3, h4], rfl⟩
  · exact Exists.intro true ⟨rfl, by simp [inB, h1, h2, h3, h4], rfl⟩
/-- inBox(x, y), a call -/
def s_inBox (st : List Value) (aw : xA) (k : List Value → xA → Prop) : Prop := match st with
  | .int y :: .int x :: st => match xsm st with
    | true => k (.int (xb (inB x y)) :: st) aw
    | false => False
  | _ => False
theorem e_inBox {d : Nat} (hd : 1 ≤ d) : xEnt l d D ad cy RX5 171 s_inBox := xEnt_S (y' := yX5_inBox) (cc' := cX5_inBox) (n' := 2) (ret' := some .boolean) (d' := 0) (j := 85) 2 (by decide +kernel) (by decide +kernel) (by omega) (fun st aw k h => by
  match st, h with
  | .int y :: .int x :: st, h =>
    cases hs : xsm st with
    | false => simp only [s_inBox, hs] at h
    | true =>
      simp only [s_inBox, hs] at h
      exact ⟨[.int x, .int y], st, _, rfl, rfl, hs, m_inBox x y aw, fun vs aw' h9 => by obtain ⟨rfl, rfl⟩ := h9; exact h⟩)
end M1
