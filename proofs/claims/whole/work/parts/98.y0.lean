/-! the neighbours of a cell, by number -/
def nbI (c w : Nat) : Bool := match w with
  | 0 => !(c % 6 == 0)
  | 1 => !(c % 6 == 5)
  | 2 => Nat.ble 6 c
  | _ => Nat.blt c 30
def nbN (c w : Nat) : Nat := match w with
  | 0 => c - 1
  | 1 => c + 1
  | 2 => c - 6
  | _ => c + 6
theorem g_tab : ∀ c : Fin 36, ∀ w : Fin 4, inB (nI (c.val % 6) + dxI w.val) (nI (c.val / 6) + dyI w.val) = nbI c.val w.val ∧ (nbI c.val w.val = true → 6 * (nI (c.val / 6) + dyI w.val).toNatClampNeg + (nI (c.val % 6) + dxI w.val).toNatClampNeg = nbN c.val w.val ∧ nI 6 * (nI (c.val / 6) + dyI w.val) + (nI (c.val % 6) + dxI w.val) = nI (nbN c.val w.val) ∧ nbN c.val w.val < 36) := by decide +kernel
/-- whether the w-th neighbour of c takes part -/
def nbT (tk : Nat → Int32) (c w : Nat) : Prop := nbI c w = true ∧ tk (nbN c w) ≠ 0
theorem nb_pos {tk : Nat → Int32} {c w : Nat} (hc : c < 36) (hw : w < 4) (h : nbT tk c w) : nearI tk c w = nI (nbN c w) ∧ ¬ nearI tk c w < 0 ∧ (nearI tk c w).toNatClampNeg = nbN c w ∧ nbN c w < 36 := by
  obtain ⟨t1, t2⟩ := g_tab ⟨c, hc⟩ ⟨w, hw⟩
  have t1 : inB (nI (c % 6) + dxI w) (nI (c / 6) + dyI w) = nbI c w := t1
  obtain ⟨t3, t4, t5⟩ := t2 h.1
  have t3 : 6 * (nI (c / 6) + dyI w).toNatClampNeg + (nI (c % 6) + dxI w).toNatClampNeg = nbN c w := t3
  have t4 : nI 6 * (nI (c / 6) + dyI w) + (nI (c % 6) + dxI w) = nI (nbN c w) := t4
  have t5 : nbN c w < 36 := t5
  have e : nearI tk c w = nI (nbN c w) := by
    unfold nearI nrI
    rw [t1, if_pos h.1, t3, if_neg h.2, t4]
  refine ⟨e, ?_, ?_, t5⟩
  · rw [e]
    rw [Int32.lt_iff_toInt_lt, nI_toInt (by omega)]
    show ¬ ((nbN c w : Int) < 0)
    omega
  · rw [e]
    exact nI_clamp (by omega)
theorem nb_neg {tk : Nat → Int32} {c w : Nat} (hc : c < 36) (hw : w < 4) (h : ¬ nbT tk c w) : nearI tk c w < 0 := by
  obtain ⟨t1, t2⟩ := g_tab ⟨c, hc⟩ ⟨w, hw⟩
  have t1 : inB (nI (c % 6) + dxI w) (nI (c / 6) + dyI w) = nbI c w := t1
  unfold nearI nrI
  rw [t1]
  by_cases hg : nbI c w = true
  · obtain ⟨t3, -⟩ := t2 hg
    have t3 : 6 * (nI (c / 6) + dyI w).toNatClampNeg + (nI (c % 6) + dxI w).toNatClampNeg = nbN c w := t3
    rw [if_pos hg, t3, if_pos (Classical.byContradiction (fun z => h ⟨hg, z⟩))]
    decide
  · rw [if_neg hg]
    decide

/-- the cells that take part, the neighbours, as numbers -/
def tC (tk : Nat → Int32) (c : Nat) : Prop := c < 36 ∧ tk c ≠ 0
noncomputable def eC (tk : Nat → Int32) (c j : Nat) : Rat := ind (tC tk c ∧ tC tk j ∧ ∃ w, w < 4 ∧ nbI c w = true ∧ nbN c w = j)
theorem g_rev : ∀ c : Fin 36, ∀ w : Fin 4, nbI c.val w.val = true → ∃ v : Fin 4, nbI (nbN c.val w.val) v.val = true ∧ nbN (nbN c.val w.val) v.val = c.val := by decide +kernel
theorem g_inj : ∀ c : Fin 36, ∀ w v : Fin 4, nbI c.val w.val = true → nbI c.val v.val = true → nbN c.val w.val = nbN c.val v.val → w = v := by decide +kernel
theorem g_self : ∀ c : Fin 36, ∀ w : Fin 4, nbI c.val w.val = true → nbN c.val w.val ≠ c.val ∧ nbN c.val w.val < 36 ∧ (c.val < nbN c.val w.val ↔ (w.val = 1 ∨ w.val = 3)) ∧ (c.val < nbN c.val w.val → nbN c.val w.val % 6 + nbN c.val w.val / 6 = c.val % 6 + c.val / 6 + 1) := by decide +kernel
theorem eC_01 (tk : Nat → Int32) (a b : Nat) : eC tk a b = 0 ∨ eC tk a b = 1 := by
  unfold eC
  rcases Classical.em (tC tk a ∧ tC tk b ∧ ∃ w, w < 4 ∧ nbI a w = true ∧ nbN a w = b) with h | h
  · exact Or.inr (ind_t h)
  · exact Or.inl (ind_f h)
theorem eC_1 {tk : Nat → Int32} {a b : Nat} (h : eC tk a b = 1) : tC tk a ∧ tC tk b ∧ ∃ w, w < 4 ∧ nbI a w = true ∧ nbN a w = b := by
  refine Classical.byContradiction (fun z => ?_)
  unfold eC at h
  rw [ind_f z] at h
  exact absurd h (by decide)
theorem eC_half {tk : Nat → Int32} {a b : Nat} (h : tC tk a ∧ tC tk b ∧ ∃ w, w < 4 ∧ nbI a w = true ∧ nbN a w = b) : tC tk b ∧ tC tk a ∧ ∃ w, w < 4 ∧ nbI b w = true ∧ nbN b w = a := by
  obtain ⟨h1, h2, w, hw, h3, h4⟩ := h
  obtain ⟨v, v1, v2⟩ := g_rev ⟨a, h1.1⟩ ⟨w, hw⟩ h3
  have v1 : nbI (nbN a w) v.val = true := v1
  have v2 : nbN (nbN a w) v.val = a := v2
  rw [h4] at v1 v2
  exact ⟨h2, h1, v.val, v.isLt, v1, v2⟩
theorem eC_sym (tk : Nat → Int32) (a b : Nat) : eC tk a b = eC tk b a := by
  unfold eC
  have : (tC tk a ∧ tC tk b ∧ ∃ w, w < 4 ∧ nbI a w = true ∧ nbN a w = b) = (tC tk b ∧ tC tk a ∧ ∃ w, w < 4 ∧ nbI b w = true ∧ nbN b w = a) := propext ⟨eC_half, eC_half⟩
  rw [this]
theorem eC_self (tk : Nat → Int32) (c : Nat) : eC tk c c = 0 := by
  unfold eC
  refine ind_f (fun h => ?_)
  obtain ⟨h1, -, w, hw, h3, h4⟩ := h
  exact (g_self ⟨c, h1.1⟩ ⟨w, hw⟩ h3).1 h4
theorem eC_rk {tk : Nat → Int32} {c j : Nat} (hcj : c < j) (h : eC tk c j = 1) : j % 6 + j / 6 = c % 6 + c / 6 + 1 := by
  obtain ⟨h1, -, w, hw, h3, h4⟩ := eC_1 h
  have g := (g_self ⟨c, h1.1⟩ ⟨w, hw⟩ h3).2.2.2
  have g : c < nbN c w → nbN c w % 6 + nbN c w / 6 = c % 6 + c / 6 + 1 := g
  rw [h4] at g
  exact g hcj
/-- a term of a sum over the neighbours -/
noncomputable def tm4 (tk : Nat → Int32) (f : Nat → Rat) (c w : Nat) : Rat := ind (nbT tk c w) * f (nbN c w)
theorem sm_del (f : Nat → Rat) (k : Nat) : ∀ n, k < n → sm (fun j => ind (k = j) * f j) n = f k
  | 0, h => by omega
  | n + 1, h => by
    rw [sm]
    by_cases hk : k = n
    · subst hk
      rw [sm_0 k (fun j hj => by rw [ind_f (by omega), Rat.zero_mul]), ind_t rfl, Rat.one_mul, Rat.zero_add]
    · rw [sm_del f k n (by omega), ind_f hk, Rat.zero_mul, Rat.add_zero]
theorem eC_sum {tk : Nat → Int32} {c : Nat} (hc : tC tk c) (j : Nat) : eC tk c j = sm (fun w => ind (nbT tk c w) * ind (nbN c w = j)) 4 := by
  rcases Classical.em (∃ w, w < 4 ∧ nbT tk c w ∧ nbN c w = j) with ⟨w, hw, h1, h2⟩ | hno
  · have e1 : eC tk c j = 1 := by
      unfold eC
      refine ind_t ⟨hc, ⟨?_, ?_⟩, w, hw, h1.1, h2⟩
      · rw [← h2]; exact (g_self ⟨c, hc.1⟩ ⟨w, hw⟩ h1.1).2.1
      · rw [← h2]; exact h1.2
    rw [e1]
    have e2 : sm (fun v => ind (nbT tk c v) * ind (nbN c v = j)) 4 = sm (fun v => ind (w = v) * 1) 4 := sm_congr 4 (fun v hv => by
      by_cases hwv : w = v
      · subst hwv
        rw [ind_t h1, ind_t h2, ind_t rfl]
      · rw [ind_f hwv]
        rcases Classical.em (nbT tk c v ∧ nbN c v = j) with ⟨h3, h4⟩ | h3
        · have := g_inj ⟨c, hc.1⟩ ⟨w, hw⟩ ⟨v, hv⟩ h1.1 h3.1 (by rw [h2, h4])
          exact absurd (congrArg Fin.val this) hwv
        · rcases Classical.em (nbT tk c v) with h4 | h4
          · rw [ind_f (fun z => h3 ⟨h4, z⟩), Rat.mul_zero, Rat.zero_mul]
          · rw [ind_f h4, Rat.zero_mul, Rat.zero_mul])
    rw [e2, sm_del (fun _ => 1) w 4 hw]
  · have e1 : eC tk c j = 0 := by
      unfold eC
      refine ind_f (fun z => ?_)
      obtain ⟨-, z2, w, hw, z3, z4⟩ := z
      exact hno ⟨w, hw, ⟨z3, by rw [z4]; exact z2.2⟩, z4⟩
    rw [e1]
    refine (sm_0 4 (fun w hw => ?_)).symm
    rcases Classical.em (nbT tk c w) with h4 | h4
    · rw [ind_f (fun z => hno ⟨w, hw, h4, z⟩), Rat.mul_zero]
    · rw [ind_f h4, Rat.zero_mul]
theorem eC_dot {tk : Nat → Int32} {c : Nat} (hc : tC tk c) (f : Nat → Rat) : sm (fun j => eC tk c j * f j) 36 = sm (fun w => tm4 tk f c w) 4 := by
  have e1 : sm (fun j => eC tk c j * f j) 36 = sm (fun j => sm (fun w => ind (nbT tk c w) * (ind (nbN c w = j) * f j)) 4) 36 := sm_congr 36 (fun j _ => by
    rw [eC_sum hc, Rat.mul_comm, ← sm_mul]
    exact sm_congr 4 (fun w _ => by grind))
  rw [e1, sm_swap]
  refine sm_congr 4 (fun w hw => ?_)
  rw [sm_mul]
  unfold tm4
  rcases Classical.em (nbT tk c w) with h | h
  · rw [sm_del f (nbN c w) 36 (g_self ⟨c, hc.1⟩ ⟨w, hw⟩ h.1).2.1]
  · rw [ind_f h, Rat.zero_mul, Rat.zero_mul]
theorem uE_dot {tk : Nat → Int32} {c : Nat} (hc : tC tk c) (f : Nat → Rat) : sm (fun j => uE (eC tk) c j * f j) 36 = tm4 tk f c 1 + tm4 tk f c 3 := by
  have e1 : sm (fun j => uE (eC tk) c j * f j) 36 = sm (fun j => eC tk c j * (ind (c < j) * f j)) 36 := sm_congr 36 (fun j _ => by
    unfold uE
    by_cases h : c < j
    · rw [if_pos h, ind_t h, Rat.one_mul]
    · rw [if_neg h, ind_f h, Rat.zero_mul, Rat.mul_zero])
  rw [e1, eC_dot hc]
  have z : ∀ w, w < 4 → tm4 tk (fun j => ind (c < j) * f j) c w = if w = 1 ∨ w = 3 then tm4 tk f c w else 0 := fun w hw => by
    unfold tm4
    show ind (nbT tk c w) * (ind (c < nbN c w) * f (nbN c w)) = _
    rcases Classical.em (nbT tk c w) with h | h
    · have g := (g_self ⟨c, hc.1⟩ ⟨w, hw⟩ h.1).2.2.1
      have g : c < nbN c w ↔ (w = 1 ∨ w = 3) := g
      by_cases hw2 : w = 1 ∨ w = 3
      · rw [if_pos hw2, ind_t (g.mpr hw2), Rat.one_mul]
      · rw [if_neg hw2, ind_f (fun k => hw2 (g.mp k)), Rat.zero_mul, Rat.mul_zero]
    · rw [ind_f h, Rat.zero_mul, Rat.zero_mul]
      split <;> rfl
  rw [sm_congr 4 z]
  show 0 + (if (0 = 1 ∨ 0 = 3) then _ else 0) + (if (1 = 1 ∨ 1 = 3) then _ else 0) + (if (2 = 1 ∨ 2 = 3) then _ else 0) + (if (3 = 1 ∨ 3 = 3) then _ else 0) = _
  rw [if_neg (by decide), if_pos (by decide), if_neg (by decide), if_pos (by decide)]
  grind
theorem lE_dot {tk : Nat → Int32} {c : Nat} (hc : tC tk c) (f : Nat → Rat) : sm (fun p => uE (eC tk) p c * f p) 36 = tm4 tk f c 0 + tm4 tk f c 2 := by
  have e1 : sm (fun p => uE (eC tk) p c * f p) 36 = sm (fun p => eC tk c p * (ind (p < c) * f p)) 36 := sm_congr 36 (fun p _ => by
    unfold uE
    by_cases h : p < c
    · rw [if_pos h, ind_t h, Rat.one_mul, eC_sym]
    · rw [if_neg h, ind_f h, Rat.zero_mul, Rat.mul_zero])
  rw [e1, eC_dot hc]
  have z : ∀ w, w < 4 → tm4 tk (fun p => ind (p < c) * f p) c w = if w = 0 ∨ w = 2 then tm4 tk f c w else 0 := fun w hw => by
    unfold tm4
    show ind (nbT tk c w) * (ind (nbN c w < c) * f (nbN c w)) = _
    rcases Classical.em (nbT tk c w) with h | h
    · obtain ⟨g0, -, g, -⟩ := g_self ⟨c, hc.1⟩ ⟨w, hw⟩ h.1
      have g0 : nbN c w ≠ c := g0
      have g : c < nbN c w ↔ (w = 1 ∨ w = 3) := g
      by_cases hw2 : w = 0 ∨ w = 2
      · have : ¬ c < nbN c w := fun k => by have := g.mp k; omega
        rw [if_pos hw2, ind_t (show nbN c w < c by omega), Rat.one_mul]
      · have : c < nbN c w := g.mpr (by omega)
        rw [if_neg hw2, ind_f (show ¬ nbN c w < c by omega), Rat.zero_mul, Rat.mul_zero]
    · rw [ind_f h, Rat.zero_mul, Rat.zero_mul]
      split <;> rfl
  rw [sm_congr 4 z]
  show 0 + (if (0 = 0 ∨ 0 = 2) then _ else 0) + (if (1 = 0 ∨ 1 = 2) then _ else 0) + (if (2 = 0 ∨ 2 = 2) then _ else 0) + (if (3 = 0 ∨ 3 = 2) then _ else 0) = _
  rw [if_pos (by decide), if_neg (by decide), if_pos (by decide), if_neg (by decide)]
  grind
