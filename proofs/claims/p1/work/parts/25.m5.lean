/-! the reference: hat, gather, side, closed, force -/
abbrev cvd (x y : UInt64) (o : CmpOp) : Int32 := Op.cmpValue (FP.dcmp x y) o
def hat2 (d : UInt64) : UInt64 := if 0 ≤ cvd d FP.dconst0 .g then FP.dconst0 else if cvd d 13830554455654793216 .l ≤ 0 then FP.dconst0 else FP.dadd FP.dconst1 d
def hatF (d : UInt64) : UInt64 := if cvd d FP.dconst0 .l < 0 then hat2 d else if 0 ≤ cvd d FP.dconst1 .g then hat2 d else FP.dsub FP.dconst1 d
/-- a particle's weight at a face, the sums, the face's value -/
def gW (X Y : Nat → UInt32) (fi fj : UInt64) (k : Nat) : UInt64 := FP.dmul (hatF (FP.dsub (FP.f2d (X k)) fi)) (hatF (FP.dsub (FP.f2d (Y k)) fj))
def gN (X Y A : Nat → UInt32) (fi fj : UInt64) : Nat → UInt64
  | 0 => FP.dconst0
  | k + 1 => FP.dadd (gN X Y A fi fj k) (FP.dmul (gW X Y fi fj k) (FP.f2d (A k)))
def gM (X Y : Nat → UInt32) (fi fj : UInt64) : Nat → UInt64
  | 0 => FP.dconst0
  | k + 1 => FP.dadd (gM X Y fi fj k) (gW X Y fi fj k)
def gF (X Y A : Nat → UInt32) (fi fj : UInt64) (np : Nat) : UInt64 := if cvd (gM X Y fi fj np) FP.dconst0 .l ≤ 0 then FP.dconst0 else FP.ddiv (gN X Y A fi fj np) (gM X Y fi fj np)
def gOk (X Y A : Nat → UInt32) (fi fj : UInt64) (k : Nat) : Prop := vf_n64 (FP.f2d (X k)) ∧ vf_n64 (FP.dsub (FP.f2d (X k)) fi) ∧ vf_n64 (hatF (FP.dsub (FP.f2d (X k)) fi)) ∧ vf_n64 (FP.f2d (Y k)) ∧ vf_n64 (FP.dsub (FP.f2d (Y k)) fj) ∧ vf_n64 (hatF (FP.dsub (FP.f2d (Y k)) fj)) ∧ vf_n64 (gW X Y fi fj k) ∧ vf_n64 (FP.f2d (A k)) ∧ vf_n64 (FP.dmul (gW X Y fi fj k) (FP.f2d (A k))) ∧ vf_n64 (gN X Y A fi fj (k + 1)) ∧ vf_n64 (gM X Y fi fj (k + 1))
def gOkF (X Y A : Nat → UInt32) (fi fj : UInt64) (np : Nat) : Prop := (∀ k, k < np → gOk X Y A fi fj k) ∧ vf_n64 (gF X Y A fi fj np)
/-- where the middle of face f lies -/
def fcX (f : Nat) : UInt64 := if f < 42 then FP.i2d (nI (f % 7)) else FP.dadd (FP.i2d (nI ((f - 42) % 6))) 4602678819172646912
def fcY (f : Nat) : UInt64 := if f < 42 then FP.dadd (FP.i2d (nI (f / 7))) 4602678819172646912 else FP.i2d (nI ((f - 42) / 6))
theorem fc_n : ∀ f : Fin 84, vf_n64 (fcX f.val) ∧ vf_n64 (fcY f.val) := by unfold vf_n64; decide +kernel
/-- the face's speeds: a of each particle for u, b for v -/
def fcA (pt : Nat → UInt32) (f k : Nat) : UInt32 := if f < 42 then pt (4 * k + 2) else pt (4 * k + 3)
abbrev ptX (pt : Nat → UInt32) (k : Nat) : UInt32 := pt (4 * k)
abbrev ptY (pt : Nat → UInt32) (k : Nat) : UInt32 := pt (4 * k + 1)
def gatG (pt : Nat → UInt32) (np f : Nat) : UInt64 := gF (ptX pt) (ptY pt) (fcA pt f) (fcX f) (fcY f) np
/-- a row whose first c places are G's -/
def filR {α : Type} (G old : Nat → α) (c : Nat) : Nat → α := fun i => if i < c then G i else old i
theorem filR_0 {α : Type} (G old : Nat → α) : filR G old 0 = old := by funext i; unfold filR; rw [if_neg (by omega)]
theorem filR_s (G old : Nat → UInt64) (c : Nat) : filR G old (c + 1) = vf_upd (filR G old c) c (G c) := by
  funext i
  unfold filR vf_upd
  by_cases h : i = c
  · subst h; rw [if_pos (by omega), if_pos rfl]
  · rw [if_neg h]
    show ite _ _ _ = ite _ _ _
    by_cases h2 : i < c
    · rw [if_pos (by omega), if_pos h2]
    · rw [if_neg (by omega), if_neg h2]
theorem upd2 {α : Type} (f : Nat → α) (k : Nat) (a b : α) : vf_upd (vf_upd f k a) k b = vf_upd f k b := by
  funext i
  unfold vf_upd
  by_cases h : i = k
  · rw [if_pos h, if_pos h]
  · rw [if_neg h, if_neg h, if_neg h]
theorem upd_at {α : Type} (f : Nat → α) (k : Nat) (a : α) : vf_upd f k a k = a := by unfold vf_upd; rw [if_pos rfl]
def sqI (x y : Int32) : Int32 := if inB x y then nI 6 * y + x else -1
/-- the cell at a face's first or second side, -1 outside -/
def sideI (f : Nat) (b : Bool) : Int32 := if f < 42 then sqI (if b then nI (f % 7) else nI (f % 7) - nI 1) (nI (f / 7)) else sqI (nI ((f - 42) % 6)) (if b then nI ((f - 42) / 6) else nI ((f - 42) / 6) - nI 1)
theorem sqI_in {x y : Int32} (h : ¬ sqI x y < 0) : ∃ c, c < 36 ∧ sqI x y = nI c := by
  unfold sqI at h ⊢
  cases hi : inB x y with
  | false => rw [hi, if_neg (by decide)] at h; exact absurd (by decide) h
  | true =>
    obtain ⟨i, j, hi6, hj6, rfl, rfl⟩ := inB_nI hi
    rw [if_pos rfl]
    exact ⟨6 * j + i, by omega, by rw [pk_mul, nI_add]⟩
theorem sideI_in {f : Nat} {b : Bool} (h : ¬ sideI f b < 0) : ∃ c, c < 36 ∧ sideI f b = nI c := by
  unfold sideI at h ⊢
  split
  · rename_i h1; rw [if_pos h1] at h; exact sqI_in h
  · rename_i h1; rw [if_neg h1] at h; exact sqI_in h
def clB (sol : Nat → Int32) (f : Nat) : Bool := if sideI f false < 0 then true else if sideI f true < 0 then true else if sol (sideI f false).toNatClampNeg ≠ 0 then true else if sol (sideI f true).toNatClampNeg ≠ 0 then true else false
def frcG (bef : Nat → UInt64) (sol : Nat → Int32) (t pull : UInt64) (f : Nat) : UInt64 := if clB sol f then FP.dconst0 else if f < 42 then bef f else FP.dadd (bef f) (FP.dmul t pull)
def frcOk (bef : Nat → UInt64) (t pull : UInt64) (f : Nat) : Prop := ¬ f < 42 → vf_n64 (FP.dmul t pull) ∧ vf_n64 (FP.dadd (bef f) (FP.dmul t pull))
section M5
variable {l : Launch} {D : va_G} {ad : Nat → Nat} {cy : Nat → ClassId}
set_option maxRecDepth 100000 in
theorem m_hat (x : UInt64) (hx : vf_n64 (hatF x)) (aw : xA) : xMet l yX5_hat cX5_hat 2 (some .double) 0 D ad cy [.double x] aw (fun vs aw' => vs = [.double (hatF x)] ∧ aw' = aw) := by
  refine xmet (Fd := xlk xfl5) (Cn := xlk xcl5) (Cl := xCt []) (by decide) xk_X5_hat xt_X5_hat ⟨_, _, rfl, rfl⟩ xpl5 (xEnt_ok (fun q h => by cases h)) (Nat.le_of_ble_eq_true rfl) (fun WC hW => ?_)
  have h12 : hatF x = hat2 x → WC (xL_X5_hat.drop 12) [some (.double x), none] [] aw := fun e => by
    refine hW.1 (fun _ => false) 200 12 _ _ _ ?_
    rw [e] at hx
    refine And.intro (fun h1 => ?_) (fun h1 => ?_)
    · refine And.intro ?_ rfl
      rw [e]; unfold hat2; rw [if_pos h1]
    refine And.intro (fun h2 => ?_) (fun h2 => ?_)
    · refine And.intro ?_ rfl
      rw [e]; unfold hat2; rw [if_neg h1, if_pos h2]
    · have e2 : hat2 x = FP.dadd FP.dconst1 x := by unfold hat2; rw [if_neg h1, if_neg h2]
      rw [e2] at hx
      refine And.intro hx (And.intro ?_ rfl)
      rw [e, e2]
  refine hW.1 (fun pc => Nat.beq pc 16) 200 0 _ _ _ ?_
  refine And.intro (fun h1 => h12 (by unfold hatF; rw [if_pos h1])) (fun h1 => ?_)
  refine And.intro (fun h2 => h12 (by unfold hatF; rw [if_neg h1, if_pos h2])) (fun h2 => ?_)
  have e2 : hatF x = FP.dsub FP.dconst1 x := by unfold hatF; rw [if_neg h1, if_neg h2]
  rw [e2] at hx
  refine And.intro hx (And.intro ?_ rfl)
  rw [e2]
def s_hat (st : List Value) (aw : xA) (k : List Value → xA → Prop) : Prop := match st with
  | .double x :: st => match xsm st with
    | true => vf_n64 (hatF x) ∧ k (.double (hatF x) :: st) aw
    | false => False
  | _ => False
theorem e_hat {d : Nat} (hd : 1 ≤ d) : xEnt l d D ad cy RX5 243 s_hat := xEnt_S (y' := yX5_hat) (cc' := cX5_hat) (n' := 2) (ret' := some .double) (d' := 0) (j := 121) 1 (by decide +kernel) (by decide +kernel) (by omega) (fun st aw k h => by
  match st, h with
  | .double x :: st, h =>
    cases hs : xsm st with
    | false => simp only [s_hat, hs] at h
    | true =>
      simp only [s_hat, hs] at h
      obtain ⟨h1, h2⟩ := h
      exact ⟨[.double x], st, _, rfl, rfl, hs, m_hat x h1 aw, fun vs aw' h9 => by obtain ⟨rfl, rfl⟩ := h9; exact h2⟩)
set_option maxRecDepth 100000 in
theorem m_side (f : Nat) (hf : f < 84) (b : Bool) (aw : xA) : xMet l yX5_side cX5_side 8 (some .int) 1 D ad cy [.int (nI f), .int (xb b)] aw (fun vs aw' => vs = [.int (sideI f b)] ∧ aw' = aw) := by
  refine xmet (Fd := xlk xfl5) (Cn := xlk xcl5) (Cl := xCt [(171, s_inBox)]) (by decide) xk_X5_side xt_X5_side ⟨_, _, rfl, rfl⟩ xpl5 (xEnt_ok (List.forall_mem_cons.mpr ⟨e_inBox (by omega), fun q h => by cases h⟩)) (Nat.le_of_ble_eq_true rfl) (fun WC hW => ?_)
  have fin : ∀ (x y : Int32), sideI f b = sqI x y → ∀ (u g i j : Int32), WC (xL_X5_side.drop 55) [some (.int (nI f)), some (.int (xb b)), some (.int u), some (.int g), some (.int i), some (.int j), some (.int x), some (.int y)] [] aw := by
    intro x y e u g i j
    refine hW.1 (fun _ => false) 200 55 _ _ _ ?_
    refine And.intro (fun h1 => ?_) (fun h1 => ?_)
    · refine And.intro ?_ rfl
      rw [e]; unfold sqI; rw [xb_eq h1]; rfl
    · refine And.intro ?_ rfl
      rw [e]; unfold sqI; rw [xb_ne h1]; rfl
  refine hW.1 (fun pc => Nat.beq pc 97) 200 0 _ _ _ ?_
  refine And.intro (fun h1 => ?_) (fun h1 => ?_)
  · have hf2 : ¬ f < 42 := fun z => nI_ge z (by decide) h1
    have e1 : nI f - nI 42 = nI (f - 42) := pk_sub (by omega)
    have r1 : nI f - nI 42 - (nI f - nI 42) / nI 6 * nI 6 = nI ((f - 42) % 6) := by rw [e1]; exact pk_rem (by omega) (by decide) (by decide)
    have r2 : (nI f - nI 42) / nI 6 = nI ((f - 42) / 6) := by rw [e1]; exact pk_div (by omega) (by decide) (by decide)
    refine And.intro (fun _ => ?_) (fun h => absurd (by decide) h)
    refine And.intro (fun _ => ?_) (fun h => absurd (by decide) h)
    refine And.intro (by decide) ?_
    refine And.intro (fun _ => ?_) (fun h => absurd (by decide) h)
    refine And.intro (by decide) ?_
    refine And.intro (fun _ => ?_) (fun h => absurd (by decide) h)
    refine And.intro (fun h => absurd (by decide) h) (fun _ => ?_)
    refine And.intro (fun h2 => ?_) (fun h2 => ?_)
    · refine fin _ _ ?_ _ _ _ _
      unfold sideI; rw [if_neg hf2, xb_ne h2, if_pos rfl, r1, r2]
    · refine fin _ _ ?_ _ _ _ _
      unfold sideI; rw [if_neg hf2, xb_eq h2, if_neg (by decide), r1, r2]
  · have hf2 : f < 42 := Nat.lt_of_not_le fun z => h1 (nI_le z (by omega))
    have r1 : nI f - nI f / nI 7 * nI 7 = nI (f % 7) := pk_rem (by omega) (by decide) (by decide)
    have r2 : nI f / nI 7 = nI (f / 7) := pk_div (by omega) (by decide) (by decide)
    refine And.intro (fun h => absurd h (by decide)) (fun _ => ?_)
    refine And.intro (fun h => absurd h (by decide)) (fun _ => ?_)
    refine And.intro (by decide) ?_
    refine And.intro (fun h => absurd h (by decide)) (fun _ => ?_)
    refine And.intro (by decide) ?_
    refine And.intro (fun h => absurd h (by decide)) (fun _ => ?_)
    refine And.intro (fun h2 => ?_) (fun h2 => ?_)
    · refine And.intro (fun _ => ?_) (fun h => absurd h (by decide))
      refine fin _ _ ?_ _ _ _ _
      unfold sideI; rw [if_pos hf2, xb_ne h2, if_pos rfl, r1, r2]
    · refine And.intro (fun _ => ?_) (fun h => absurd h (by decide))
      refine fin _ _ ?_ _ _ _ _
      unfold sideI; rw [if_pos hf2, xb_eq h2, if_neg (by decide), r1, r2]
def s_side (st : List Value) (aw : xA) (k : List Value → xA → Prop) : Prop := match st with
  | .int z :: .int x :: st => match xsm st with
    | true => ∃ (f : Nat) (b : Bool), x = nI f ∧ z = xb b ∧ f < 84 ∧ k (.int (sideI f b) :: st) aw
    | false => False
  | _ => False
theorem e_side {d : Nat} (hd : 2 ≤ d) : xEnt l d D ad cy RX5 231 s_side := xEnt_S (y' := yX5_side) (cc' := cX5_side) (n' := 8) (ret' := some .int) (d' := 1) (j := 115) 2 (by decide +kernel) (by decide +kernel) (by omega) (fun st aw k h => by
  match st, h with
  | .int z :: .int x :: st, h =>
    cases hs : xsm st with
    | false => simp only [s_side, hs] at h
    | true =>
      simp only [s_side, hs] at h
      obtain ⟨f, b, rfl, rfl, hf, h2⟩ := h
      exact ⟨[.int (nI f), .int (xb b)], st, _, rfl, rfl, hs, m_side f hf b aw, fun vs aw' h9 => by obtain ⟨rfl, rfl⟩ := h9; exact h2⟩)
set_option maxRecDepth 100000 in
theorem m_closed (S : mS) (f : Nat) (hf : f < 84) : xMet l yX5_closed cX5_closed 4 (some .boolean) 2 D ad cy [.ref 0, .int (nI f)] (mW S) (fun vs aw' => vs = [.int (xb (clB (mA S 1) f))] ∧ aw' = mW S) := by
  refine xmet (Fd := xlk xfl5) (Cn := xlk xcl5) (Cl := xCt [(231, s_side)]) (by decide) xk_X5_closed xt_X5_closed ⟨_, _, rfl, rfl⟩ xpl5 (xEnt_ok (List.forall_mem_cons.mpr ⟨e_side (by omega), fun q h => by cases h⟩)) (Nat.le_of_ble_eq_true rfl) (fun WC hW => ?_)
  refine hW.1 (fun _ => false) 200 0 _ _ _ ?_
  refine ⟨f, false, rfl, rfl, hf, ?_⟩
  refine ⟨f, true, rfl, rfl, hf, ?_⟩
  refine And.intro (fun h1 => ?_) (fun h1 => ?_)
  · exact Exists.intro true ⟨rfl, by unfold clB; rw [if_pos h1], rfl⟩
  refine And.intro (fun h2 => ?_) (fun h2 => ?_)
  · exact Exists.intro true ⟨rfl, by unfold clB; rw [if_neg h1, if_pos h2], rfl⟩
  obtain ⟨c1, hc1, e1⟩ := sideI_in h1
  obtain ⟨c2, hc2, e2⟩ := sideI_in h2
  refine ⟨c1, e1, by omega, by decide, ?_⟩
  have k1 : (sideI f false).toNatClampNeg = c1 := by rw [e1, nI_clamp (by omega)]
  have k2 : (sideI f true).toNatClampNeg = c2 := by rw [e2, nI_clamp (by omega)]
  refine And.intro (fun h3 => ?_) (fun h3 => ?_)
  · exact Exists.intro true ⟨rfl, by unfold clB; rw [if_neg h1, if_neg h2, k1, if_pos h3], rfl⟩
  refine ⟨c2, e2, by omega, by decide, ?_⟩
  refine And.intro (fun h4 => ?_) (fun h4 => ?_)
  · exact Exists.intro false ⟨rfl, by unfold clB; rw [if_neg h1, if_neg h2, k1, k2, if_neg (fun z => z h3), if_neg (fun z => z h4)], rfl⟩
  · exact Exists.intro true ⟨rfl, by unfold clB; rw [if_neg h1, if_neg h2, k1, k2, if_neg (fun z => z h3), if_pos h4], rfl⟩
def s_closed (st : List Value) (aw : xA) (k : List Value → xA → Prop) : Prop := match st with
  | .int x :: .ref 0 :: st => match xsm st with
    | true => ∃ (S : mS) (f : Nat), aw = mW S ∧ x = nI f ∧ f < 84 ∧ k (.int (xb (clB (mA S 1) f)) :: st) (mW S)
    | false => False
  | _ => False
theorem e_closed {d : Nat} (hd : 3 ≤ d) : xEnt l d D ad cy RX5 250 s_closed := xEnt_V (y' := yX5_closed) (cc' := cX5_closed) (n' := 4) (ret' := some .boolean) (d' := 2) (j := 125) 1 (by decide +kernel) (by decide +kernel) (by omega) (fun st aw k h => by
  match st, h with
  | .int x :: .ref 0 :: st, h =>
    cases hs : xsm st with
    | false => simp only [s_closed, hs] at h
    | true =>
      simp only [s_closed, hs] at h
      obtain ⟨S, f, rfl, rfl, hf, h2⟩ := h
      exact ⟨[.int (nI f)], st, _, 0, 5, _, rfl, rfl, hs, rfl, ⟨_, rfl, rfl⟩, m_closed S f hf, fun vs aw' h9 => by obtain ⟨rfl, rfl⟩ := h9; exact h2⟩)
set_option maxRecDepth 100000 in
theorem m_force (S : mS) (t : UInt64) (hok : ∀ f, f < 84 → frcOk (mD S 12) t (mD S 4 0) f) : xMet l yX5_force cX5_force 4 none 3 D ad cy [.ref 0, .double t] (mW S) (fun vs aw' => vs = [] ∧ aw' = mW (mD' S 13 (filR (frcG (mD S 12) (mA S 1) t (mD S 4 0)) (mD S 13) 84))) := by
  refine xmet (Fd := xlk xfl5) (Cn := xlk xcl5) (Cl := xCt [(250, s_closed)]) (by decide) xk_X5_force xt_X5_force ⟨_, _, rfl, rfl⟩ xpl5 (xEnt_ok (List.forall_mem_cons.mpr ⟨e_closed (by omega), fun q h => by cases h⟩)) (Nat.le_of_ble_eq_true rfl) (fun WC hW => ?_)
  generalize hG : frcG (mD S 12) (mA S 1) t (mD S 4 0) = G
  have loop : ∀ (n f : Nat), f + n = 84 → WC (xL_X5_force.drop 2) [some (.ref 0), some (.double t), none, some (.int (nI f))] [] (mW (mD' S 13 (filR G (mD S 13) f))) := by
    intro n
    induction n with
    | zero =>
      intro f hf
      have : f = 84 := by omega
      subst this
      refine hW.1 (fun pc => Nat.beq pc 2) 200 2 _ _ _ ?_
      refine And.intro (fun h1 => And.intro rfl ?_) (fun h1 => absurd (Int32.le_refl _) h1)
      rw [hG]
    | succ n ih =>
      intro f hf
      have ih' := ih (f + 1) (by omega)
      have e1 : nI f + nI 1 = nI (f + 1) := nI_add f 1
      rw [← e1, filR_s] at ih'
      have hok := hok f (by omega)
      have tail : ∀ v : UInt64, (if clB (mA S 1) f then FP.dconst0 else v) = G f → WC (xL_X5_force.drop 27) [some (.ref 0), some (.double t), none, some (.int (nI f))] [.double v, .int (nI f), .ref 13] (mW (mD' S 13 (filR G (mD S 13) f))) := by
        intro v hv
        refine hW.1 (fun pc => Nat.beq pc 2) 200 27 _ _ _ ?_
        refine ⟨f, rfl, by omega, by decide, ?_⟩
        refine ⟨mD' S 13 (vf_upd (filR G (mD S 13) f) f v), f, rfl, rfl, by omega, ?_⟩
        refine And.intro (fun h2 => ?_) (fun h2 => ?_)
        · refine ⟨f, rfl, by omega, by decide, ?_⟩
          refine ⟨f, rfl, by omega, by decide, ?_⟩
          have h2 := xb_eq h2
          have h2 : clB (mA S 1) f = false := h2
          rw [h2] at hv
          have hv : v = G f := hv
          have e3 : vf_upd (vf_upd (filR G (mD S 13) f) f v) f (vf_upd (filR G (mD S 13) f) f v f) = vf_upd (filR G (mD S 13) f) f (G f) := by rw [upd2, upd_at, hv]
          rw [← e3] at ih'
          exact ih'
        · refine ⟨f, rfl, by omega, by decide, ?_⟩
          have h2 := xb_ne h2
          have h2 : clB (mA S 1) f = true := h2
          rw [h2] at hv
          have hv : FP.dconst0 = G f := hv
          have e3 : vf_upd (vf_upd (filR G (mD S 13) f) f v) f FP.dconst0 = vf_upd (filR G (mD S 13) f) f (G f) := by rw [upd2, hv]
          rw [← e3] at ih'
          exact ih'
      refine hW.1 (fun pc => Nat.beq pc 2 || Nat.beq pc 43) 200 2 _ _ _ ?_
      refine And.intro (fun h1 => absurd h1 (nI_ge (b := 84) (by omega) (by decide))) (fun h1 => ?_)
      refine And.intro (fun h2 => ?_) (fun h2 => ?_)
      · have hf2 : ¬ f < 42 := fun z => nI_ge z (by decide) h2
        obtain ⟨o1, o2⟩ := hok hf2
        refine ⟨f, rfl, by omega, by decide, ?_⟩
        refine ⟨0, rfl, by decide, by decide, ?_⟩
        refine And.intro o1 (And.intro o2 ?_)
        exact tail (FP.dadd (mD S 12 f) (FP.dmul t (mD S 4 0))) (by rw [← hG]; unfold frcG; rw [if_neg hf2])
      · have hf2 : f < 42 := Nat.lt_of_not_le fun z => h2 (nI_le z (by omega))
        refine ⟨f, rfl, by omega, by decide, ?_⟩
        exact tail (mD S 12 f) (by rw [← hG]; unfold frcG; rw [if_pos hf2])
  have h9 := loop 84 0 (by omega)
  rw [filR_0] at h9
  exact hW.1 (fun pc => Nat.beq pc 2) 200 0 _ _ _ h9
def s_force (st : List Value) (aw : xA) (k : List Value → xA → Prop) : Prop := match st with
  | .double t :: .ref 0 :: st => match xsm st with
    | true => ∃ S : mS, aw = mW S ∧ (∀ f, f < 84 → frcOk (mD S 12) t (mD S 4 0) f) ∧ k st (mW (mD' S 13 (filR (frcG (mD S 12) (mA S 1) t (mD S 4 0)) (mD S 13) 84)))
    | false => False
  | _ => False
theorem e_force {d : Nat} (hd : 4 ≤ d) : xEnt l d D ad cy RX5 350 s_force := xEnt_V (y' := yX5_force) (cc' := cX5_force) (n' := 4) (ret' := none) (d' := 3) (j := 175) 1 (by decide +kernel) (by decide +kernel) (by omega) (fun st aw k h => by
  match st, h with
  | .double t :: .ref 0 :: st, h =>
    cases hs : xsm st with
    | false => simp only [s_force, hs] at h
    | true =>
      simp only [s_force, hs] at h
      obtain ⟨S, rfl, hok, h2⟩ := h
      exact ⟨[.double t], st, _, 0, 5, _, rfl, rfl, hs, rfl, ⟨_, rfl, rfl⟩, m_force S t hok, fun vs aw' h9 => by obtain ⟨rfl, rfl⟩ := h9; exact h2⟩)
end M5
