/-! the cells and faces of a step: what takes part, what is open -/
theorem flu_1 {pt : Nat → UInt32} {f : Nat → Int32} {c : Nat} (hc : c < 36) : ∀ n, fluR pt f n c ≠ 0 → ∃ k, k < n ∧ (cellI (pt (4 * k)) (pt (4 * k + 1))).toNatClampNeg = c
  | 0, h => by
    have e : fluR pt f 0 c = 0 := by show (if c < 36 then 0 else f c) = 0; rw [if_pos hc]
    exact absurd e h
  | n + 1, h => by
    have e : fluR pt f (n + 1) c = if c = (cellI (pt (4 * n)) (pt (4 * n + 1))).toNatClampNeg then xb true else fluR pt f n c := rfl
    rw [e] at h
    by_cases hcn : c = (cellI (pt (4 * n)) (pt (4 * n + 1))).toNatClampNeg
    · exact ⟨n, by omega, hcn.symm⟩
    · rw [if_neg hcn] at h
      obtain ⟨k, hk, hk2⟩ := flu_1 hc n h
      exact ⟨k, by omega, hk2⟩
def oS (sol : Nat → Int32) (c w : Nat) : Prop := nbI c w = true ∧ sol (nbN c w) = 0
theorem op_tab : ∀ c : Fin 36, nI (c.val % 6) - nI 1 = nI (c.val % 6) + dxI 0 ∧ nI (c.val / 6) = nI (c.val / 6) + dyI 0 ∧ nI (c.val % 6) + nI 1 = nI (c.val % 6) + dxI 1 ∧ nI (c.val / 6) = nI (c.val / 6) + dyI 1 ∧ nI (c.val % 6) = nI (c.val % 6) + dxI 2 ∧ nI (c.val / 6) - nI 1 = nI (c.val / 6) + dyI 2 ∧ nI (c.val % 6) = nI (c.val % 6) + dxI 3 ∧ nI (c.val / 6) + nI 1 = nI (c.val / 6) + dyI 3 := by decide +kernel
theorem sol_w {sol : Nat → Int32} {c w : Nat} (hc : c < 36) (hw : w < 4) : ((b01 (isSolB sol (nI (c % 6) + dxI w) (nI (c / 6) + dyI w)) : Nat) : Rat) = ind (oS sol c w) := by
  obtain ⟨t1, t2⟩ := g_tab ⟨c, hc⟩ ⟨w, hw⟩
  have t1 : inB (nI (c % 6) + dxI w) (nI (c / 6) + dyI w) = nbI c w := t1
  have t2 : nbI c w = true → 6 * (nI (c / 6) + dyI w).toNatClampNeg + (nI (c % 6) + dxI w).toNatClampNeg = nbN c w ∧ _ := t2
  unfold isSolB
  rw [t1]
  by_cases h : nbI c w = true
  · rw [if_pos h, (t2 h).1]
    by_cases h2 : sol (nbN c w) = 0
    · rw [ind_t ⟨h, h2⟩]
      have : decide (sol (nbN c w) ≠ 0) = false := by simp [h2]
      rw [this]
      rfl
    · rw [ind_f (fun z => h2 z.2)]
      have : decide (sol (nbN c w) ≠ 0) = true := by simp [h2]
      rw [this]
      rfl
  · rw [if_neg h, ind_f (fun z => h z.1)]
    rfl
theorem opn_v {sol : Nat → Int32} {c : Nat} (hc : c < 36) : ((opN sol c : Nat) : Rat) = ind (oS sol c 0) + ind (oS sol c 1) + ind (oS sol c 2) + ind (oS sol c 3) := by
  obtain ⟨a0, b0, a1, b1, a2, b2, a3, b3⟩ := op_tab ⟨c, hc⟩
  have a0 : nI (c % 6) - nI 1 = nI (c % 6) + dxI 0 := a0
  have b0 : nI (c / 6) = nI (c / 6) + dyI 0 := b0
  have a1 : nI (c % 6) + nI 1 = nI (c % 6) + dxI 1 := a1
  have b1 : nI (c / 6) = nI (c / 6) + dyI 1 := b1
  have a2 : nI (c % 6) = nI (c % 6) + dxI 2 := a2
  have b2 : nI (c / 6) - nI 1 = nI (c / 6) + dyI 2 := b2
  have a3 : nI (c % 6) = nI (c % 6) + dxI 3 := a3
  have b3 : nI (c / 6) + nI 1 = nI (c / 6) + dyI 3 := b3
  rw [← sol_w hc (by omega), ← sol_w hc (by omega), ← sol_w hc (by omega), ← sol_w hc (by omega), ← Rat.natCast_add, ← Rat.natCast_add, ← Rat.natCast_add, ← a0, ← b0, ← a1, ← b1, ← a2, ← b2, ← a3, ← b3]
  rfl
theorem op_4 (sol : Nat → Int32) (c : Nat) : opN sol c ≤ 4 := by
  have k : ∀ b, b01 b ≤ 1 := fun b => by cases b <;> decide
  unfold opN
  have := k (isSolB sol (nI (c % 6) - nI 1) (nI (c / 6)))
  have := k (isSolB sol (nI (c % 6) + nI 1) (nI (c / 6)))
  have := k (isSolB sol (nI (c % 6)) (nI (c / 6) - nI 1))
  have := k (isSolB sol (nI (c % 6)) (nI (c / 6) + nI 1))
  omega
theorem tk_T {sol fl tk : Nat → Int32} (htk : ∀ c, c < 36 → tk c = xb (tkB sol fl c)) {c : Nat} (hc : c < 36) (h : tk c ≠ 0) : fl c ≠ 0 ∧ opN sol c ≠ 0 ∧ tkB sol fl c = true := by
  rw [htk c hc] at h
  have h := xb_ne h
  have h0 := h
  unfold tkB at h
  by_cases h1 : fl c = 0
  · rw [if_pos h1] at h
    cases h
  · rw [if_neg h1] at h
    by_cases h2 : opN sol c = 0
    · rw [if_pos h2] at h
      cases h
    · exact ⟨h1, h2, h0⟩
theorem nb_o {sol fl tk : Nat → Int32} (htk : ∀ c, c < 36 → tk c = xb (tkB sol fl c)) (hfs : ∀ c, c < 36 → fl c ≠ 0 → sol c = 0) {c w : Nat} (hc : c < 36) (hw : w < 4) (h : nbT tk c w) : oS sol c w := ⟨h.1, hfs _ (nb_36 hc hw h.1) (tk_T htk (nb_36 hc hw h.1) h.2).1⟩
theorem dgh {sol fl tk : Nat → Int32} {dg : Nat → UInt64} (htk : ∀ c, c < 36 → tk c = xb (tkB sol fl c)) (hdg : ∀ c, c < 36 → dg c = dgG sol c) (hfs : ∀ c, c < 36 → fl c ≠ 0 → sol c = 0) : DgH tk dg (opN sol) := by
  refine ⟨fun c hc => ⟨hdg c hc, op_4 sol c⟩, fun c hc ht => ⟨?_, ?_⟩⟩
  · have := (tk_T htk hc ht).2.1
    omega
  · rw [opn_v hc]
    have k : ∀ w, w < 4 → ind (nbT tk c w) ≤ ind (oS sol c w) := fun w hw => ind_le (nb_o htk hfs hc hw)
    have k0 := k 0 (by omega)
    have k1 := k 1 (by omega)
    have k2 := k 2 (by omega)
    have k3 := k 3 (by omega)
    generalize ind (nbT tk c 0) = i0 at *
    generalize ind (nbT tk c 1) = i1 at *
    generalize ind (nbT tk c 2) = i2 at *
    generalize ind (nbT tk c 3) = i3 at *
    generalize ind (oS sol c 0) = o0 at *
    generalize ind (oS sol c 1) = o1 at *
    generalize ind (oS sol c 2) = o2 at *
    generalize ind (oS sol c 3) = o3 at *
    clear k htk hdg hfs
    grind
theorem cnt_24 {tk : Nat → Int32} {cell : Nat → Nat} {np : Nat} (h24 : np ≤ 24) (h : ∀ c, tC tk c → ∃ k, k < np ∧ cell k = c) : sm (fun c => ind (tC tk c)) 36 ≤ 24 := by
  have a : sm (fun c => ind (tC tk c)) 36 ≤ sm (fun c => sm (fun k => ind (cell k = c)) np) 36 := sm_le 36 (fun c _ => by
    rcases Classical.em (tC tk c) with t | t
    · obtain ⟨k, hk, e⟩ := h c t
      rw [ind_t t]
      have := sm_one (f := fun k => ind (cell k = c)) np k hk (fun i _ => ind_nn _)
      have e2 : ind (cell k = c) = 1 := ind_t e
      rw [← e2]
      exact this
    · rw [ind_f t]
      exact sm_nn np (fun i _ => ind_nn _))
  rw [sm_swap] at a
  have b : sm (fun k => sm (fun c => ind (cell k = c)) 36) np ≤ sm (fun _ => 1) np := sm_le np (fun k _ => ind_1 (fun i j e1 e2 => e1.symm.trans e2) 36)
  rw [sm_const] at b
  refine Rat.le_trans a (Rat.le_trans b ?_)
  rw [Rat.mul_one]
  exact nat_rat h24
/-! faces of a cell -/
def fF (c w : Nat) : Nat := match w with
  | 0 => 7 * (c / 6) + c % 6
  | 1 => 7 * (c / 6) + c % 6 + 1
  | 2 => 42 + 6 * (c / 6) + c % 6
  | _ => 42 + 6 * (c / 6) + 6 + c % 6
def fB (w : Nat) : Bool := Nat.beq w 1 || Nat.beq w 3
def sW4 (w : Nat) : Rat := match w with
  | 0 => -1
  | 1 => 1
  | 2 => -1
  | _ => 1
theorem f_tab : ∀ c : Fin 36, ∀ w : Fin 4, fF c.val w.val < 84 ∧ (fF c.val w.val < 42 ↔ w.val < 2) ∧ (nbI c.val w.val = true → sideI (fF c.val w.val) (fB w.val) = nI (nbN c.val w.val) ∧ fF (nbN c.val w.val) (rev4 w.val) = fF c.val w.val) ∧ (nbI c.val w.val = false → sideI (fF c.val w.val) (fB w.val) = -1) := by decide +kernel
theorem cl_of {sol : Nat → Int32} {f : Nat} {b : Bool} (h : sideI f b < 0 ∨ sol (sideI f b).toNatClampNeg ≠ 0) : clB sol f = true := by
  unfold clB
  split
  · rfl
  · rename_i h1
    split
    · rfl
    · rename_i h2
      split
      · rfl
      · rename_i h3
        split
        · rfl
        · rename_i h4
          exfalso
          cases b with
          | false => exact h.elim h1 h3
          | true => exact h.elim h2 h4
theorem cl_w {sol : Nat → Int32} {c w : Nat} (hc : c < 36) (hw : w < 4) (h : ¬ oS sol c w) : clB sol (fF c w) = true := by
  obtain ⟨-, -, t3, t4⟩ := f_tab ⟨c, hc⟩ ⟨w, hw⟩
  have t3 : nbI c w = true → sideI (fF c w) (fB w) = nI (nbN c w) ∧ _ := t3
  have t4 : nbI c w = false → sideI (fF c w) (fB w) = -1 := t4
  refine cl_of (b := fB w) ?_
  by_cases g : nbI c w = true
  · refine Or.inr ?_
    rw [(t3 g).1, nI_clamp (show nbN c w < 2 ^ 31 by have := nb_36 hc hw g; omega)]
    exact fun z => h ⟨g, z⟩
  · refine Or.inl ?_
    rw [t4 (by simpa using g)]
    decide
def gC (af : Nat → UInt64) (c w : Nat) : Rat := sW4 w * rv (af (fF c w))
theorem sW_rev : ∀ w : Fin 4, sW4 (rev4 w.val) = -sW4 w.val := by decide +kernel
theorem face_h {sol fl tk : Nat → Int32} {af : Nat → UInt64} (htk : ∀ c, c < 36 → tk c = xb (tkB sol fl c)) (hfs : ∀ c, c < 36 → fl c ≠ 0 → sol c = 0) (haf : ∀ f, f < 84 → clB sol f = true → rv (af f) = 0) : faceH tk (opN sol) (gC af) (oS sol) := by
  refine ⟨fun c w hc hw h => ?_, fun c w hc hw h => ?_, fun c w hc hw h => nb_o htk hfs hc.1 hw h, fun c hc => opn_v hc.1⟩
  · obtain ⟨-, -, t3, -⟩ := f_tab ⟨c, hc.1⟩ ⟨w, hw⟩
    have t3 : fF (nbN c w) (rev4 w) = fF c w := (t3 h.1).2
    have s : sW4 (rev4 w) = -sW4 w := sW_rev ⟨w, hw⟩
    unfold gC
    rw [t3, s, Rat.neg_mul]
  · unfold gC
    rw [haf _ (f_tab ⟨c, hc.1⟩ ⟨w, hw⟩).1 (cl_w hc.1 hw h), Rat.mul_zero]
