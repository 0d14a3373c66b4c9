/-! the reference: mixed, edge -/
abbrev cvf (x y : UInt32) (o : CmpOp) : Int32 := Op.cmpValue (FP.fcmp x y) o
def miV (P : Nat → UInt32) (u : Bool) (k : Nat) : UInt32 := if u then P (4 * k + 2) else P (4 * k + 3)
def miF (sh v : UInt32) (now was : UInt64) : UInt32 := boF (FP.fadd (FP.fmul sh (FP.fadd v (FP.d2f (FP.dsub now was)))) (FP.fmul (FP.fsub FP.fconst1 sh) (FP.d2f now)))
def miO (sh v : UInt32) (now was : UInt64) : Prop := vf_n64 (FP.dsub now was) ∧ vf_n32 (FP.d2f (FP.dsub now was)) ∧ vf_n32 (FP.fadd v (FP.d2f (FP.dsub now was))) ∧ vf_n32 (FP.fmul sh (FP.fadd v (FP.d2f (FP.dsub now was)))) ∧ vf_n32 (FP.fsub FP.fconst1 sh) ∧ vf_n32 (FP.d2f now) ∧ vf_n32 (FP.fmul (FP.fsub FP.fconst1 sh) (FP.d2f now)) ∧ vf_n32 (FP.fadd (FP.fmul sh (FP.fadd v (FP.d2f (FP.dsub now was)))) (FP.fmul (FP.fsub FP.fconst1 sh) (FP.d2f now)))
/-- particle k's new speed -/
def mixF (S : mS) (u : Bool) (k : Nat) : UInt32 := miF (mF S 5 0) (miV (mF S 3) u k) (smF (mD S 13) u (FP.f2d (mF S 3 (4 * k))) (FP.f2d (mF S 3 (4 * k + 1)))) (smF (mD S 12) u (FP.f2d (mF S 3 (4 * k))) (FP.f2d (mF S 3 (4 * k + 1))))
def mixOk (S : mS) (u : Bool) (k : Nat) : Prop := vf_n64 (FP.f2d (mF S 3 (4 * k))) ∧ vf_n64 (FP.f2d (mF S 3 (4 * k + 1))) ∧ smOk (mD S 13) u (FP.f2d (mF S 3 (4 * k))) (FP.f2d (mF S 3 (4 * k + 1))) ∧ smOk (mD S 12) u (FP.f2d (mF S 3 (4 * k))) (FP.f2d (mF S 3 (4 * k + 1))) ∧ miO (mF S 5 0) (miV (mF S 3) u k) (smF (mD S 13) u (FP.f2d (mF S 3 (4 * k))) (FP.f2d (mF S 3 (4 * k + 1)))) (smF (mD S 12) u (FP.f2d (mF S 3 (4 * k))) (FP.f2d (mF S 3 (4 * k + 1))))
def edB (v : UInt32) : Bool := if cvf v 1031798784 .g < 0 then true else if cvf v 1086193664 .l ≤ 0 then false else true
def edV (v : UInt32) : UInt32 := if 0 ≤ cvf v 1031798784 .g then (if cvf v 1086193664 .l ≤ 0 then v else 1086193664) else 1031798784
def edS (N : Nat → UInt32) (a s : Nat) : Nat → UInt32 := vf_upd (vf_upd N a (edV (N a))) s (if edB (N a) then FP.fmul (FP.fneg (N s)) 1056964608 else N s)
def edOk (N : Nat → UInt32) (a s : Nat) : Prop := edB (N a) = true → vf_n32 (FP.fmul (FP.fneg (N s)) 1056964608)
theorem n32_ne {v : UInt32} (h : vf_n32 v) : FP.Core.val32 v ≠ .nan := by
  rw [FP.Core.ne_nan32]
  unfold vf_n32 at h
  have h := UInt32.le_iff_toNat_le.mp h
  rw [UInt32.toNat_and] at h
  have e : (0x7fffffff : UInt32).toNat = 2 ^ 31 - 1 := rfl
  rw [e, Nat.and_two_pow_sub_one_eq_mod] at h
  exact h
theorem upd_ne {α : Type} (f : Nat → α) {j k : Nat} (a : α) (h : j ≠ k) : vf_upd f k a j = f j := by unfold vf_upd; rw [if_neg h]
theorem edV_off {v : UInt32} (h : vf_n32 v) : offB (edV v) 1031798784 1086193664 = false := by
  have hv := n32_ne h
  unfold edV
  by_cases h1 : 0 ≤ cvf v 1031798784 .g
  · rw [if_pos h1]
    by_cases h2 : cvf v 1086193664 .l ≤ 0
    · rw [if_pos h2]
      unfold offB
      unfold cvf at h1 h2
      cases ho : FP.fcmp v 1031798784 with
      | none =>
        rcases (FP.Core.fcmp_none v 1031798784).mp ho with h | h
        · exact absurd h hv
        · exact absurd h (by decide +kernel)
      | some o =>
        rw [ho] at h1
        cases hq : FP.fcmp v 1086193664 with
        | none =>
          rcases (FP.Core.fcmp_none v 1086193664).mp hq with h | h
          · exact absurd h hv
          · exact absurd h (by decide +kernel)
        | some q =>
          rw [hq] at h2
          revert h1 h2
          cases o <;> cases q <;> decide
    · rw [if_neg h2]; decide +kernel
  · rw [if_neg h1]; decide +kernel
section M15
variable {l : Launch} {D : va_G} {ad : Nat → Nat} {cy : Nat → ClassId}
set_option maxRecDepth 100000 in
set_option maxHeartbeats 4000000 in
theorem mi_a (S : mS) (Q : UInt32) (WC : xC → xO → List Value → xA → Prop) (hW : xSys xL_X5_mixed (xlk xfl5) (xlk xcl5) (xCt [(316, s_sample), (325, s_bound)]) (xRt (some .float) (fun vs aw' => vs = [.float Q] ∧ aw' = mW S)) WC) (u : Bool) (k : Nat) (hk : k < 24) (next : WC (xL_X5_mixed.drop 13) [some (.ref 0), some (.int (nI k)), some (.int (xb u)), some (.float (miV (mF S 3) u k)), none, none, none, none, none] [] (mW S)) : WC (xL_X5_mixed.drop 0) [some (.ref 0), some (.int (nI k)), some (.int (xb u)), none, none, none, none, none, none] [] (mW S) := by
  cases u with
  | true =>
    refine hW.1 (fun pc => Nat.beq pc 19) 200 0 _ _ _ ?_
    refine And.intro (fun h => absurd h (by decide)) (fun _ => ?_)
    refine ⟨4 * k + 2, by rw [pk_mul, nI_add], by omega, by decide, ?_⟩
    exact next
  | false =>
    refine hW.1 (fun pc => Nat.beq pc 19) 200 0 _ _ _ ?_
    refine And.intro (fun _ => ?_) (fun h => absurd (by decide) h)
    refine ⟨4 * k + 3, by rw [pk_mul, nI_add], by omega, by decide, ?_⟩
    exact next
set_option maxRecDepth 100000 in
set_option maxHeartbeats 4000000 in
theorem mi_b (S : mS) (Q : UInt32) (WC : xC → xO → List Value → xA → Prop) (hW : xSys xL_X5_mixed (xlk xfl5) (xlk xcl5) (xCt [(316, s_sample), (325, s_bound)]) (xRt (some .float) (fun vs aw' => vs = [.float Q] ∧ aw' = mW S)) WC) (u : Bool) (k : Nat) (hk : k < 24) (v : UInt32) (x y : UInt64) (hx : x = (FP.f2d (mF S 3 (4 * k)))) (hy : y = (FP.f2d (mF S 3 (4 * k + 1)))) (v1 : vf_n64 x) (v2 : vf_n64 y) (now : UInt64) (hn : now = smF (mD S 13) u x y) (v3 : smOk (mD S 13) u x y) (next : WC (xL_X5_mixed.drop 34) [some (.ref 0), some (.int (nI k)), some (.int (xb u)), some (.float v), some (.double now), none, none, none, none] [] (mW S)) : WC (xL_X5_mixed.drop 13) [some (.ref 0), some (.int (nI k)), some (.int (xb u)), some (.float v), none, none, none, none, none] [] (mW S) := by
  subst hx hy hn
  have e4 : nI 4 * nI k = nI (4 * k) := by rw [pk_mul]
  have e5 : nI 4 * nI k + nI 1 = nI (4 * k + 1) := by rw [pk_mul, nI_add]
  refine hW.1 (fun pc => Nat.beq pc 47) 200 13 _ _ _ ?_
  refine ⟨4 * k, e4, by omega, by decide, ?_⟩
  refine And.intro v1 ?_
  refine ⟨4 * k + 1, e5, by omega, by decide, ?_⟩
  refine And.intro v2 ?_
  exact ⟨S, false, u, rfl, rfl, rfl, v3, next⟩
set_option maxRecDepth 100000 in
set_option maxHeartbeats 4000000 in
theorem mi_c (S : mS) (Q : UInt32) (WC : xC → xO → List Value → xA → Prop) (hW : xSys xL_X5_mixed (xlk xfl5) (xlk xcl5) (xCt [(316, s_sample), (325, s_bound)]) (xRt (some .float) (fun vs aw' => vs = [.float Q] ∧ aw' = mW S)) WC) (u : Bool) (k : Nat) (hk : k < 24) (v : UInt32) (x y : UInt64) (hx : x = (FP.f2d (mF S 3 (4 * k)))) (hy : y = (FP.f2d (mF S 3 (4 * k + 1)))) (v1 : vf_n64 x) (v2 : vf_n64 y) (now was : UInt64) (hn : was = smF (mD S 12) u x y) (v3 : smOk (mD S 12) u x y) (next : WC (xL_X5_mixed.drop 55) [some (.ref 0), some (.int (nI k)), some (.int (xb u)), some (.float v), some (.double now), none, some (.double was), none, none] [] (mW S)) : WC (xL_X5_mixed.drop 34) [some (.ref 0), some (.int (nI k)), some (.int (xb u)), some (.float v), some (.double now), none, none, none, none] [] (mW S) := by
  subst hx hy hn
  have e4 : nI 4 * nI k = nI (4 * k) := by rw [pk_mul]
  have e5 : nI 4 * nI k + nI 1 = nI (4 * k + 1) := by rw [pk_mul, nI_add]
  refine hW.1 (fun pc => Nat.beq pc 75) 200 34 _ _ _ ?_
  refine ⟨4 * k, e4, by omega, by decide, ?_⟩
  refine And.intro v1 ?_
  refine ⟨4 * k + 1, e5, by omega, by decide, ?_⟩
  refine And.intro v2 ?_
  exact ⟨S, true, u, rfl, rfl, rfl, v3, next⟩
set_option maxRecDepth 100000 in
set_option maxHeartbeats 4000000 in
theorem mi_d (S : mS) (Q : UInt32) (WC : xC → xO → List Value → xA → Prop) (hW : xSys xL_X5_mixed (xlk xfl5) (xlk xcl5) (xCt [(316, s_sample), (325, s_bound)]) (xRt (some .float) (fun vs aw' => vs = [.float Q] ∧ aw' = mW S)) WC) (u : Bool) (k : Nat) (v : UInt32) (now was : UInt64) (hQ : Q = miF (mF S 5 0) v now was) (hO : miO (mF S 5 0) v now was) : WC (xL_X5_mixed.drop 55) [some (.ref 0), some (.int (nI k)), some (.int (xb u)), some (.float v), some (.double now), none, some (.double was), none, none] [] (mW S) := by
  obtain ⟨v1, v2, v3, v4, v5, v6, v7, v8⟩ := hO
  refine hW.1 (fun _ => false) 200 55 _ _ _ ?_
  refine ⟨0, rfl, by decide, by decide, ?_⟩
  refine And.intro v1 (And.intro v2 (And.intro v3 (And.intro v4 (And.intro v5 (And.intro v6 (And.intro v7 (And.intro v8 ?_)))))))
  exact And.intro (by rw [hQ]; rfl) rfl
theorem m_mixed (S : mS) (u : Bool) (k : Nat) (hk : k < 24) (hok : mixOk S u k) : xMet l yX5_mixed cX5_mixed 9 (some .float) 3 D ad cy [.ref 0, .int (nI k), .int (xb u)] (mW S) (fun vs aw' => vs = [.float (mixF S u k)] ∧ aw' = mW S) := by
  refine xmet (Fd := xlk xfl5) (Cn := xlk xcl5) (Cl := xCt [(316, s_sample), (325, s_bound)]) (by decide) xk_X5_mixed xt_X5_mixed ⟨_, _, rfl, rfl⟩ xpl5 (xEnt_ok (List.forall_mem_cons.mpr ⟨e_sample (by omega), List.forall_mem_cons.mpr ⟨e_bound (by omega), fun q h => by cases h⟩⟩)) (Nat.le_of_ble_eq_true rfl) (fun WC hW => ?_)
  obtain ⟨v1, v2, v3, v4, v5⟩ := hok
  refine mi_a S _ WC hW u k hk ?_
  refine mi_b S _ WC hW u k hk _ _ _ rfl rfl v1 v2 _ rfl v3 ?_
  refine mi_c S _ WC hW u k hk _ _ _ rfl rfl v1 v2 _ _ rfl v4 ?_
  exact mi_d S _ WC hW u k _ _ _ rfl v5
def s_mixed (st : List Value) (aw : xA) (k : List Value → xA → Prop) : Prop := match st with
  | .int b :: .int c :: .ref 0 :: st => match xsm st with
    | true => ∃ (S : mS) (u : Bool) (k9 : Nat), aw = mW S ∧ c = nI k9 ∧ b = xb u ∧ k9 < 24 ∧ mixOk S u k9 ∧ k (.float (mixF S u k9) :: st) (mW S)
    | false => False
  | _ => False
theorem e_mixed {d : Nat} (hd : 4 ≤ d) : xEnt l d D ad cy RX5 384 s_mixed := xEnt_V (y' := yX5_mixed) (cc' := cX5_mixed) (n' := 9) (ret' := some .float) (d' := 3) (j := 192) 2 (by decide +kernel) (by decide +kernel) (by omega) (fun st aw k h => by
  match st, h with
  | .int b :: .int c :: .ref 0 :: st, h =>
    cases hs : xsm st with
    | false => simp only [s_mixed, hs] at h
    | true =>
      simp only [s_mixed, hs] at h
      obtain ⟨S, u, k9, rfl, rfl, rfl, hk, hok, h2⟩ := h
      exact ⟨[.int (nI k9), .int (xb u)], st, _, 0, 5, _, rfl, rfl, hs, rfl, ⟨_, rfl, rfl⟩, m_mixed S u k9 hk hok, fun vs aw' h9 => by obtain ⟨rfl, rfl⟩ := h9; exact h2⟩)
set_option maxRecDepth 100000 in
set_option maxHeartbeats 4000000 in
theorem m_edge (S : mS) (a s : Nat) (ha : a < 96) (hs : s < 96) (hne : s ≠ a) (hok : edOk (mF S 21) a s) : xMet l yX5_edge cX5_edge 4 none 0 D ad cy [.ref 0, .int (nI a), .int (nI s)] (mW S) (fun vs aw' => vs = [] ∧ aw' = mW (mF' S 21 (edS (mF S 21) a s))) := by
  refine xmet (Fd := xlk xfl5) (Cn := xlk xcl5) (Cl := xCt []) (by decide) xk_X5_edge xt_X5_edge ⟨_, _, rfl, rfl⟩ xpl5 (xEnt_ok (fun q h => by cases h)) (Nat.le_of_ble_eq_true rfl) (fun WC hW => ?_)
  generalize hN : mF S 21 = N at hok hW
  have T44 : WC (xL_X5_edge.drop 44) [some (.ref 0), some (.int (nI a)), some (.int (nI s)), some (.int (xb (edB (N a))))] [] (mW (mF' S 21 (vf_upd N a (edV (N a))))) := by
    have er : vf_upd N a (edV (N a)) s = N s := upd_ne _ _ hne
    refine hW.1 (fun _ => false) 200 44 _ _ _ ?_
    refine And.intro (fun h1 => ?_) (fun h1 => ?_)
    · refine ⟨s, rfl, by omega, by decide, ?_⟩
      refine ⟨s, rfl, by omega, by decide, ?_⟩
      refine And.intro rfl ?_
      show mW (mF' S 21 (vf_upd (vf_upd N a (edV (N a))) s (vf_upd N a (edV (N a)) s))) = _
      unfold edS
      rw [er, xb_eq h1]
      rfl
    · have h1 := xb_ne h1
      refine ⟨s, rfl, by omega, by decide, ?_⟩
      have v1 : vf_n32 (FP.fmul (FP.fneg (vf_upd N a (edV (N a)) s)) 1056964608) := by rw [er]; exact hok h1
      refine And.intro v1 ?_
      refine ⟨s, rfl, by omega, by decide, ?_⟩
      refine And.intro rfl ?_
      show mW (mF' S 21 (vf_upd (vf_upd N a (edV (N a))) s (FP.fmul (FP.fneg (vf_upd N a (edV (N a)) s)) 1056964608))) = _
      unfold edS
      rw [er, h1]
      rfl
  have T43 : ∀ v, v = edV (N a) → WC (xL_X5_edge.drop 43) [some (.ref 0), some (.int (nI a)), some (.int (nI s)), some (.int (xb (edB (N a))))] [.float v, .int (nI a), .ref 21] (mW S) := by
    intro v hv
    subst hv
    refine hW.1 (fun pc => Nat.beq pc 76) 200 43 _ _ _ ?_
    refine ⟨a, rfl, by omega, by decide, ?_⟩
    rw [← hN] at T44
    rw [← hN]
    exact T44
  have T17 : ∀ b, b = edB (N a) → WC (xL_X5_edge.drop 17) [some (.ref 0), some (.int (nI a)), some (.int (nI s)), none] [.int (xb b)] (mW S) := by
    intro b hb
    rw [← hb] at T43
    refine hW.1 (fun pc => Nat.beq pc 75) 200 17 _ _ _ ?_
    refine ⟨a, rfl, by omega, by decide, ?_⟩
    refine And.intro (fun h1 => ?_) (fun h1 => ?_)
    · rw [show mF S 21 a = N a by rw [hN]] at h1
      refine ⟨a, rfl, by omega, by decide, ?_⟩
      refine And.intro (fun h2 => ?_) (fun h2 => ?_)
      · rw [show mF S 21 a = N a by rw [hN]] at h2
        refine ⟨a, rfl, by omega, by decide, ?_⟩
        exact T43 _ (by unfold edV; rw [if_pos h1, if_pos h2, ← hN])
      · rw [show mF S 21 a = N a by rw [hN]] at h2
        exact T43 _ (by unfold edV; rw [if_pos h1, if_neg h2])
    · rw [show mF S 21 a = N a by rw [hN]] at h1
      exact T43 _ (by unfold edV; rw [if_neg h1])
  refine hW.1 (fun pc => Nat.beq pc 29) 200 0 _ _ _ ?_
  refine ⟨a, rfl, by omega, by decide, ?_⟩
  refine And.intro (fun h1 => ?_) (fun h1 => ?_)
  · rw [show mF S 21 a = N a by rw [hN]] at h1
    exact T17 true (by unfold edB; rw [if_pos h1])
  · rw [show mF S 21 a = N a by rw [hN]] at h1
    refine ⟨a, rfl, by omega, by decide, ?_⟩
    refine And.intro (fun h2 => ?_) (fun h2 => ?_)
    · rw [show mF S 21 a = N a by rw [hN]] at h2
      exact T17 false (by unfold edB; rw [if_neg h1, if_pos h2])
    · rw [show mF S 21 a = N a by rw [hN]] at h2
      exact T17 true (by unfold edB; rw [if_neg h1, if_neg h2])
def s_edge (st : List Value) (aw : xA) (k : List Value → xA → Prop) : Prop := match st with
  | .int z :: .int y :: .ref 0 :: st => match xsm st with
    | true => ∃ (S : mS) (a s : Nat), aw = mW S ∧ y = nI a ∧ z = nI s ∧ a < 96 ∧ s < 96 ∧ s ≠ a ∧ edOk (mF S 21) a s ∧ k st (mW (mF' S 21 (edS (mF S 21) a s)))
    | false => False
  | _ => False
theorem e_edge {d : Nat} (hd : 1 ≤ d) : xEnt l d D ad cy RX5 332 s_edge := xEnt_V (y' := yX5_edge) (cc' := cX5_edge) (n' := 4) (ret' := none) (d' := 0) (j := 166) 2 (by decide +kernel) (by decide +kernel) (by omega) (fun st aw k h => by
  match st, h with
  | .int z :: .int y :: .ref 0 :: st, h =>
    cases hs : xsm st with
    | false => simp only [s_edge, hs] at h
    | true =>
      simp only [s_edge, hs] at h
      obtain ⟨S, a, s, rfl, rfl, rfl, ha, hs9, hne, hok, h2⟩ := h
      exact ⟨[.int (nI a), .int (nI s)], st, _, 0, 5, _, rfl, rfl, hs, rfl, ⟨_, rfl, rfl⟩, m_edge S a s ha hs9 hne hok, fun vs aw' h9 => by obtain ⟨rfl, rfl⟩ := h9; exact h2⟩)
end M15
