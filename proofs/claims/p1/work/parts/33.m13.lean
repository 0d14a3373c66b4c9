/-! the reference: project, within, bound -/
def sdN (f : Nat) (b : Bool) : Nat := (sideI f b).toNatClampNeg
def pjD (p : Nat → UInt64) (f : Nat) : UInt64 := FP.dsub (p (sdN f true)) (p (sdN f false))
def pjG (af p : Nat → UInt64) (sol fl : Nat → Int32) (f : Nat) : UInt64 := if clB sol f then af f else if fl (sdN f false) ≠ 0 then FP.dsub (af f) (pjD p f) else if fl (sdN f true) = 0 then af f else FP.dsub (af f) (pjD p f)
def pjOk (af p : Nat → UInt64) (sol fl : Nat → Int32) (f : Nat) : Prop := clB sol f = false → (fl (sdN f false) ≠ 0 ∨ fl (sdN f true) ≠ 0) → vf_n64 (pjD p f) ∧ vf_n64 (FP.dsub (af f) (pjD p f))
theorem filR_k {α : Type} (G old : Nat → α) (c : Nat) (h : G c = old c) : filR G old (c + 1) = filR G old c := by
  funext i
  unfold filR
  by_cases h1 : i = c
  · subst h1; rw [if_pos (by omega), if_neg (by omega), h]
  · by_cases h2 : i < c
    · rw [if_pos (by omega), if_pos h2]
    · rw [if_neg (by omega), if_neg h2]
theorem clB_in {sol : Nat → Int32} {f : Nat} (h : clB sol f = false) : (sdN f false < 36 ∧ sideI f false = nI (sdN f false)) ∧ sdN f true < 36 ∧ sideI f true = nI (sdN f true) := by
  unfold clB at h
  by_cases h1 : sideI f false < 0
  · rw [if_pos h1] at h; cases h
  rw [if_neg h1] at h
  by_cases h2 : sideI f true < 0
  · rw [if_pos h2] at h; cases h
  obtain ⟨c1, hc1, e1⟩ := sideI_in h1
  obtain ⟨c2, hc2, e2⟩ := sideI_in h2
  have k1 : sdN f false = c1 := by unfold sdN; rw [e1, nI_clamp (by omega)]
  have k2 : sdN f true = c2 := by unfold sdN; rw [e2, nI_clamp (by omega)]
  rw [k1, k2]
  exact ⟨⟨hc1, e1⟩, hc2, e2⟩
def wiF (x hi : UInt64) : UInt64 := if 0 ≤ cvd x FP.dconst0 .g then (if cvd x hi .l ≤ 0 then x else hi) else FP.dconst0
def boF (x : UInt32) : UInt32 := if 0 ≤ Op.cmpValue (FP.fcmp x 3238002688) .g then (if Op.cmpValue (FP.fcmp x 1090519040) .l ≤ 0 then x else 1090519040) else 3238002688
section M13
variable {l : Launch} {D : va_G} {ad : Nat → Nat} {cy : Nat → ClassId}
set_option maxRecDepth 100000 in
set_option maxHeartbeats 4000000 in
theorem m_project (S : mS) (hok : ∀ f, f < 84 → pjOk (mD S 13) (mD S 16) (mA S 1) (mA S 10) f) : xMet l yX5_project cX5_project 4 none 3 D ad cy [.ref 0] (mW S) (fun vs aw' => vs = [] ∧ aw' = mW (mD' S 13 (filR (pjG (mD S 13) (mD S 16) (mA S 1) (mA S 10)) (mD S 13) 84))) := by
  refine xmet (Fd := xlk xfl5) (Cn := xlk xcl5) (Cl := xCt [(231, s_side), (250, s_closed)]) (by decide) xk_X5_project xt_X5_project ⟨_, _, rfl, rfl⟩ xpl5 (xEnt_ok (List.forall_mem_cons.mpr ⟨e_side (by omega), List.forall_mem_cons.mpr ⟨e_closed (by omega), fun q h => by cases h⟩⟩)) (Nat.le_of_ble_eq_true rfl) (fun WC hW => ?_)
  generalize hG : pjG (mD S 13) (mD S 16) (mA S 1) (mA S 10) = G
  have loop : ∀ (n f : Nat), f + n = 84 → WC (xL_X5_project.drop 2) [some (.ref 0), some (.int (nI f)), none, none] [] (mW (mD' S 13 (filR G (mD S 13) f))) := by
    intro n
    induction n with
    | zero =>
      intro f hf
      have : f = 84 := by omega
      subst this
      refine hW.1 (fun pc => Nat.beq pc 2) 200 2 _ _ _ ?_
      exact And.intro (fun h1 => And.intro rfl (by rw [hG])) (fun h1 => absurd (Int32.le_refl _) h1)
    | succ n ih =>
      intro f hf
      have ih' := ih (f + 1) (by omega)
      have e1 : nI f + nI 1 = nI (f + 1) := nI_add f 1
      rw [← e1] at ih'
      have hok := hok f (by omega)
      have es : filR G (mD S 13) f f = mD S 13 f := by unfold filR; rw [if_neg (by omega)]
      have skip : G f = mD S 13 f → ∀ x y : Int32, WC (xL_X5_project.drop 45) [some (.ref 0), some (.int (nI f)), some (.int x), some (.int y)] [] (mW (mD' S 13 (filR G (mD S 13) f))) := by
        intro h x y
        rw [filR_k _ _ _ h] at ih'
        refine hW.1 (fun pc => Nat.beq pc 2) 200 45 _ _ _ ?_
        refine hW.2 2 _ _ _ _ ?_ ?_ ih'
        · exact And.intro rfl (And.intro rfl (trivial))
        · rfl
      have doit : G f = FP.dsub (mD S 13 f) (pjD (mD S 16) f) → clB (mA S 1) f = false → vf_n64 (pjD (mD S 16) f) → vf_n64 (FP.dsub (mD S 13 f) (pjD (mD S 16) f)) → WC (xL_X5_project.drop 27) [some (.ref 0), some (.int (nI f)), some (.int (sideI f false)), some (.int (sideI f true))] [] (mW (mD' S 13 (filR G (mD S 13) f))) := by
        intro h hc v1 v2
        obtain ⟨⟨a1, a2⟩, b1, b2⟩ := clB_in hc
        rw [filR_s, h] at ih'
        refine hW.1 (fun pc => Nat.beq pc 2) 200 27 _ _ _ ?_
        refine ⟨f, rfl, by omega, by decide, ?_⟩
        refine ⟨sdN f true, b2, by omega, by decide, ?_⟩
        refine ⟨sdN f false, a2, by omega, by decide, ?_⟩
        refine And.intro v1 ?_
        have v2' : vf_n64 (FP.dsub (filR G (mD S 13) f f) (pjD (mD S 16) f)) := by rw [es]; exact v2
        refine And.intro v2' ?_
        refine ⟨f, rfl, by omega, by decide, ?_⟩
        rw [← es] at ih'
        refine hW.2 2 _ _ _ _ ?_ ?_ ih'
        · exact And.intro rfl (And.intro rfl (trivial))
        · rfl
      refine hW.1 (fun pc => Nat.beq pc 2 || Nat.beq pc 46 || Nat.beq pc 72) 200 2 _ _ _ ?_
      refine And.intro (fun h1 => absurd h1 (nI_ge (b := 84) (by omega) (by decide))) (fun h1 => ?_)
      refine ⟨f, false, rfl, rfl, by omega, ?_⟩
      refine ⟨f, true, rfl, rfl, by omega, ?_⟩
      refine ⟨mD' S 13 (filR G (mD S 13) f), f, rfl, rfl, by omega, ?_⟩
      refine And.intro (fun h2 => ?_) (fun h2 => ?_)
      · have h2 : clB (mA S 1) f = true := xb_ne h2
        exact skip (by rw [← hG]; unfold pjG; rw [if_pos h2]) _ _
      have h2 : clB (mA S 1) f = false := xb_eq h2
      obtain ⟨⟨a1, a2⟩, b1, b2⟩ := clB_in h2
      have h2' : ¬ clB (mA S 1) f = true := by rw [h2]; decide
      refine ⟨sdN f false, a2, by omega, by decide, ?_⟩
      refine And.intro (fun h3 => ?_) (fun h3 => ?_)
      · obtain ⟨v1, v2⟩ := hok h2 (Or.inl h3)
        exact doit (by rw [← hG]; unfold pjG; rw [if_neg h2', if_pos h3]) h2 v1 v2
      have h3 : ¬ mA S 10 (sdN f false) ≠ 0 := fun z => z h3
      refine ⟨sdN f true, b2, by omega, by decide, ?_⟩
      refine And.intro (fun h4 => ?_) (fun h4 => ?_)
      · exact skip (by rw [← hG]; unfold pjG; rw [if_neg h2', if_neg h3, if_pos h4]) _ _
      · obtain ⟨v1, v2⟩ := hok h2 (Or.inr h4)
        exact doit (by rw [← hG]; unfold pjG; rw [if_neg h2', if_neg h3, if_neg h4]) h2 v1 v2
  have h9 := loop 84 0 (by omega)
  rw [filR_0] at h9
  exact hW.1 (fun pc => Nat.beq pc 2) 200 0 _ _ _ h9
def s_project (st : List Value) (aw : xA) (k : List Value → xA → Prop) : Prop := match st with
  | .ref 0 :: st => match xsm st with
    | true => ∃ S : mS, aw = mW S ∧ (∀ f, f < 84 → pjOk (mD S 13) (mD S 16) (mA S 1) (mA S 10) f) ∧ k st (mW (mD' S 13 (filR (pjG (mD S 13) (mD S 16) (mA S 1) (mA S 10)) (mD S 13) 84)))
    | false => False
  | _ => False
theorem e_project {d : Nat} (hd : 4 ≤ d) : xEnt l d D ad cy RX5 378 s_project := xEnt_V (y' := yX5_project) (cc' := cX5_project) (n' := 4) (ret' := none) (d' := 3) (j := 189) 0 (by decide +kernel) (by decide +kernel) (by omega) (fun st aw k h => by
  match st, h with
  | .ref 0 :: st, h =>
    cases hs : xsm st with
    | false => simp only [s_project, hs] at h
    | true =>
      simp only [s_project, hs] at h
      obtain ⟨S, rfl, hok, h2⟩ := h
      exact ⟨[], st, _, 0, 5, _, rfl, rfl, hs, rfl, ⟨_, rfl, rfl⟩, m_project S hok, fun vs aw' h9 => by obtain ⟨rfl, rfl⟩ := h9; exact h2⟩)
set_option maxRecDepth 100000 in
set_option maxHeartbeats 4000000 in
theorem m_within (x hi : UInt64) (aw : xA) : xMet l yX5_within cX5_within 4 (some .double) 0 D ad cy [.double x, .double hi] aw (fun vs aw' => vs = [.double (wiF x hi)] ∧ aw' = aw) := by
  refine xmet (Fd := xlk xfl5) (Cn := xlk xcl5) (Cl := xCt []) (by decide) xk_X5_within xt_X5_within ⟨_, _, rfl, rfl⟩ xpl5 (xEnt_ok (fun q h => by cases h)) (Nat.le_of_ble_eq_true rfl) (fun WC hW => ?_)
  refine hW.1 (fun _ => false) 100 0 _ _ _ ?_
  refine And.intro (fun h1 => ?_) (fun h1 => ?_)
  · refine And.intro (fun h2 => ?_) (fun h2 => ?_)
    · exact And.intro (by unfold wiF; rw [if_pos h1, if_pos h2]) rfl
    · exact And.intro (by unfold wiF; rw [if_pos h1, if_neg h2]) rfl
  · exact And.intro (by unfold wiF; rw [if_neg h1]) rfl
def s_within (st : List Value) (aw : xA) (k : List Value → xA → Prop) : Prop := match st with
  | .double hi :: .double x :: st => match xsm st with
    | true => k (.double (wiF x hi) :: st) aw
    | false => False
  | _ => False
theorem e_within {d : Nat} (hd : 1 ≤ d) : xEnt l d D ad cy RX5 309 s_within := xEnt_S (y' := yX5_within) (cc' := cX5_within) (n' := 4) (ret' := some .double) (d' := 0) (j := 154) 2 (by decide +kernel) (by decide +kernel) (by omega) (fun st aw k h => by
  match st, h with
  | .double hi :: .double x :: st, h =>
    cases hs : xsm st with
    | false => simp only [s_within, hs] at h
    | true =>
      simp only [s_within, hs] at h
      exact ⟨[.double x, .double hi], st, _, rfl, rfl, hs, m_within x hi aw, fun vs aw' h9 => by obtain ⟨rfl, rfl⟩ := h9; exact h⟩)
set_option maxRecDepth 100000 in
set_option maxHeartbeats 4000000 in
theorem m_bound (x : UInt32) (aw : xA) : xMet l yX5_bound cX5_bound 1 (some .float) 0 D ad cy [.float x] aw (fun vs aw' => vs = [.float (boF x)] ∧ aw' = aw) := by
  refine xmet (Fd := xlk xfl5) (Cn := xlk xcl5) (Cl := xCt []) (by decide) xk_X5_bound xt_X5_bound ⟨_, _, rfl, rfl⟩ xpl5 (xEnt_ok (fun q h => by cases h)) (Nat.le_of_ble_eq_true rfl) (fun WC hW => ?_)
  refine hW.1 (fun _ => false) 100 0 _ _ _ ?_
  refine And.intro (fun h1 => ?_) (fun h1 => ?_)
  · refine And.intro (fun h2 => ?_) (fun h2 => ?_)
    · exact And.intro (by unfold boF; rw [if_pos h1, if_pos h2]) rfl
    · exact And.intro (by unfold boF; rw [if_pos h1, if_neg h2]) rfl
  · exact And.intro (by unfold boF; rw [if_neg h1]) rfl
def s_bound (st : List Value) (aw : xA) (k : List Value → xA → Prop) : Prop := match st with
  | .float x :: st => match xsm st with
    | true => k (.float (boF x) :: st) aw
    | false => False
  | _ => False
theorem e_bound {d : Nat} (hd : 1 ≤ d) : xEnt l d D ad cy RX5 325 s_bound := xEnt_S (y' := yX5_bound) (cc' := cX5_bound) (n' := 1) (ret' := some .float) (d' := 0) (j := 162) 1 (by decide +kernel) (by decide +kernel) (by omega) (fun st aw k h => by
  match st, h with
  | .float x :: st, h =>
    cases hs : xsm st with
    | false => simp only [s_bound, hs] at h
    | true =>
      simp only [s_bound, hs] at h
      exact ⟨[.float x], st, _, rfl, rfl, hs, m_bound x aw, fun vs aw' h9 => by obtain ⟨rfl, rfl⟩ := h9; exact h⟩)
end M13
