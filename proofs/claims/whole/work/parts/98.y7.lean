/-! the system of the cells that take part -/
noncomputable def dC (tk : Nat → Int32) (mk : Nat → UInt64) (c : Nat) : Rat := ind (tC tk c) * rv (mk c)
noncomputable def omC (tk : Nat → Int32) (dg mk : Nat → UInt64) (c : Nat) : Rat := ind (tC tk c) * (rv (mk c) - rv (mk2 dg mk tk c) + tm4 tk (fun p => (ru (eC tk) p - 1) * wD (dC tk mk) p) c 0 + tm4 tk (fun p => (ru (eC tk) p - 1) * wD (dC tk mk) p) c 2)
noncomputable def erC (tk : Nat → Int32) (dg mk : Nat → UInt64) (dn : Nat → Nat) (c : Nat) : Rat := rv (mk2 dg mk tk c) - dn c + tm4 tk (wD (dC tk mk)) c 0 + tm4 tk (wD (dC tk mk)) c 2
theorem dC_T {tk : Nat → Int32} {mk : Nat → UInt64} {c : Nat} (h : tC tk c) : dC tk mk c = rv (mk c) := by
  unfold dC
  rw [ind_t h, Rat.one_mul]
theorem nn_v {tk : Nat → Int32} {c : Nat} (hc : tC tk c) : nn (eC tk) c = ind (nbT tk c 0) + ind (nbT tk c 1) + ind (nbT tk c 2) + ind (nbT tk c 3) := by
  unfold nn
  have := eC_dot hc (fun _ => 1)
  rw [sm_congr 36 (fun j _ => (Rat.mul_one (eC tk c j)).symm), this]
  show 0 + tm4 tk (fun _ => 1) c 0 + tm4 tk (fun _ => 1) c 1 + tm4 tk (fun _ => 1) c 2 + tm4 tk (fun _ => 1) c 3 = _
  unfold tm4
  grind
theorem nn_out {tk : Nat → Int32} {c : Nat} (hc : ¬ tC tk c) : nn (eC tk) c = 0 := sm_0 36 (fun j _ => by
  unfold eC
  exact ind_f (fun z => hc z.1))
noncomputable def lbN (tk : Nat → Int32) (c : Nat) : Nat := (@ite Nat (nbT tk c 0) (Classical.propDecidable _) 1 0) + (@ite Nat (nbT tk c 2) (Classical.propDecidable _) 1 0)
theorem lbN_v (tk : Nat → Int32) (c : Nat) : (lbN tk c : Rat) = ind (nbT tk c 0) + ind (nbT tk c 2) := by
  unfold lbN
  rw [Rat.natCast_add]
  rcases Classical.em (nbT tk c 0) with h | h <;> rcases Classical.em (nbT tk c 2) with k | k
  · rw [if_pos h, if_pos k, ind_t h, ind_t k]; rfl
  · rw [if_pos h, if_neg k, ind_t h, ind_f k]; rfl
  · rw [if_neg h, if_pos k, ind_f h, ind_t k]; rfl
  · rw [if_neg h, if_neg k, ind_f h, ind_f k]; rfl
theorem sys_4 {tk : Nat → Int32} {dg : Nat → UInt64} {dn : Nat → Nat} (hD : DgH tk dg dn) {c : Nat} (hc : c < 36) : (dn c : Rat) = nn (eC tk) c ∨ nn (eC tk) c + 1 ≤ (dn c : Rat) := by
  have key : ∃ N : Nat, nn (eC tk) c = (N : Rat) ∧ N ≤ dn c := by
    rcases Classical.em (tC tk c) with h | h
    · refine ⟨ruN tk c + lbN tk c, ?_, ?_⟩
      · rw [nn_v h, Rat.natCast_add, ruN_v, lbN_v]
        grind
      · have := (hD.2 c hc h.2).2
        refine Rat.natCast_le_natCast.mp ?_
        rw [Rat.natCast_add, ruN_v, lbN_v]
        grind
    · exact ⟨0, nn_out h, Nat.zero_le _⟩
  obtain ⟨N, e, l⟩ := key
  rw [e]
  by_cases h : N = dn c
  · exact Or.inl (by rw [h])
  · refine Or.inr ?_
    have : ((N + 1 : Nat) : Rat) ≤ dn c := nat_rat (show N + 1 ≤ dn c by omega)
    rw [Rat.natCast_add] at this
    exact this
theorem tC_nb {tk : Nat → Int32} {dg mk : Nat → UInt64} {dn : Nat → Nat} (hD : DgH tk dg dn) (hm : ∀ c, c < 36 → mk c = mkV dg mk tk c) {c w : Nat} (hc : c < 36) (hw : w < 4) (h : nbT tk c w) : tC tk (nbN c w) := ⟨nb_36 hc hw h.1, h.2⟩
theorem wD_b {tk : Nat → Int32} {dg mk : Nat → UInt64} {dn : Nat → Nat} (hD : DgH tk dg dn) (hm : ∀ c, c < 36 → mk c = mkV dg mk tk c) {c w : Nat} (hc : c < 36) (ht : tk c ≠ 0) (hw : w = 0 ∨ w = 2) (h : nbT tk c w) : wD (dC tk mk) (nbN c w) = 1 / rv (mk (nbN c w)) ∧ 0 ≤ wD (dC tk mk) (nbN c w) ∧ wD (dC tk mk) (nbN c w) ≤ 1 ∧ 1 ≤ ru (eC tk) (nbN c w) := by
  have t := tC_nb hD hm hc (by omega) h
  obtain ⟨b1, b2, b3⟩ := mk_b hD hm hc ht hw h
  have e : wD (dC tk mk) (nbN c w) = 1 / rv (mk (nbN c w)) := by
    unfold wD
    rw [dC_T t]
  obtain ⟨o1, o2⟩ := one_div b2
  rw [e, ru_v t]
  exact ⟨rfl, o1, o2, ru_1 hc ht hw h⟩
theorem om_t {tk : Nat → Int32} {dg mk : Nat → UInt64} {dn : Nat → Nat} (hD : DgH tk dg dn) (hm : ∀ c, c < 36 → mk c = mkV dg mk tk c) {c w : Nat} (hc : c < 36) (ht : tk c ≠ 0) (hw : w = 0 ∨ w = 2) : 0 ≤ tm4 tk (fun p => (ru (eC tk) p - 1) * wD (dC tk mk) p) c w := by
  unfold tm4
  rcases Classical.em (nbT tk c w) with h | h
  · obtain ⟨-, w2, -, w4⟩ := wD_b hD hm hc ht hw h
    exact Rat.mul_nonneg (ind_nn _) (Rat.mul_nonneg (by grind) w2)
  · rw [ind_f h, Rat.zero_mul]
    exact Rat.le_refl
theorem om_T {tk : Nat → Int32} {dg mk : Nat → UInt64} {dn : Nat → Nat} (hD : DgH tk dg dn) (hm : ∀ c, c < 36 → mk c = mkV dg mk tk c) {c : Nat} (h : tC tk c) : omC tk dg mk c = rv (mk c) - rv (mk2 dg mk tk c) + tm4 tk (fun p => (ru (eC tk) p - 1) * wD (dC tk mk) p) c 0 + tm4 tk (fun p => (ru (eC tk) p - 1) * wD (dC tk mk) p) c 2 := by
  unfold omC
  rw [ind_t h, Rat.one_mul]
theorem om_ge {tk : Nat → Int32} {dg mk : Nat → UInt64} {dn : Nat → Nat} (hD : DgH tk dg dn) (hm : ∀ c, c < 36 → mk c = mkV dg mk tk c) {c : Nat} (h : tC tk c) : rv (mk c) - rv (mk2 dg mk tk c) ≤ omC tk dg mk c ∧ tm4 tk (fun p => (ru (eC tk) p - 1) * wD (dC tk mk) p) c 0 ≤ omC tk dg mk c ∧ tm4 tk (fun p => (ru (eC tk) p - 1) * wD (dC tk mk) p) c 2 ≤ omC tk dg mk c := by
  have a := om_t hD hm h.1 h.2 (Or.inl rfl)
  have b := om_t hD hm h.1 h.2 (Or.inr rfl)
  have d := (mk_T hD hm h.1 h.2).2.2.2.2.2.2
  rw [om_T hD hm h]
  grind
theorem om_nn {tk : Nat → Int32} {dg mk : Nat → UInt64} {dn : Nat → Nat} (hD : DgH tk dg dn) (hm : ∀ c, c < 36 → mk c = mkV dg mk tk c) (c : Nat) : 0 ≤ omC tk dg mk c := by
  rcases Classical.em (tC tk c) with h | h
  · exact Rat.le_trans (by have d := (mk_T hD hm h.1 h.2).2.2.2.2.2.2; grind) (om_ge hD hm h).1
  · unfold omC
    rw [ind_f h, Rat.zero_mul]
    exact Rat.le_refl
theorem mak {tk : Nat → Int32} {dg mk : Nat → UInt64} {dn : Nat → Nat} (hD : DgH tk dg dn) (hm : ∀ c, c < 36 → mk c = mkV dg mk tk c) : Mak (eC tk) (fun c => (dn c : Rat)) (omC tk dg mk) (tC tk) (dC tk mk) (erC tk dg mk dn) (fun c => c % 6 + c / 6) := by
  refine ⟨fun c => ?_, fun c hc h => ?_, fun c j hcj h => eC_rk hcj h, fun c hc => (by show c % 6 + c / 6 ≤ 10; omega), eC_self tk⟩
  · unfold dC
    rcases Classical.em (tC tk c) with h | h
    · have := (mk_T hD hm h.1 h.2).2.2.1
      exact Rat.mul_nonneg (ind_nn _) (by grind)
    · rw [ind_f h, Rat.zero_mul]
      exact Rat.le_refl
  · obtain ⟨m1, m2, m3, m4, m5, m6, m7⟩ := mk_T hD hm h.1 h.2
    obtain ⟨-, -, -, c4, -, -, -⟩ := mk_cell hD hm h.1 (mk_b hD hm h.1 h.2 (Or.inl rfl)) (mk_b hD hm h.1 h.2 (Or.inr rfl))
    have tw : ∀ w, (w = 0 ∨ w = 2) → tm4 tk (fun p => 1 / rv (mk p)) c w = tm4 tk (wD (dC tk mk)) c w ∧ 0 ≤ tm4 tk (wD (dC tk mk)) c w ∧ tm4 tk (wD (dC tk mk)) c w ≤ 1 := fun w hw => by
      unfold tm4
      rcases Classical.em (nbT tk c w) with k | k
      · obtain ⟨w1, w2, w3, -⟩ := wD_b hD hm h.1 h.2 hw k
        rw [ind_t k, Rat.one_mul, Rat.one_mul]
        exact ⟨w1.symm, w2, w3⟩
      · rw [ind_f k, Rat.zero_mul, Rat.zero_mul]
        exact ⟨rfl, by decide, by decide⟩
    obtain ⟨t1, t2, t3⟩ := tw 0 (Or.inl rfl)
    obtain ⟨t4, t5, t6⟩ := tw 2 (Or.inr rfl)
    rw [t1, t4] at c4
    rw [dC_T h, ru_v h, lE_dot h, lE_dot h, om_T hD hm h]
    refine ⟨m3, m4, by grind, by grind, ?_, ?_⟩
    · unfold erC
      have e0 : ∀ w, tm4 tk (fun p => wD (dC tk mk) p * ru (eC tk) p) c w = tm4 tk (fun p => (ru (eC tk) p - 1) * wD (dC tk mk) p) c w + tm4 tk (wD (dC tk mk)) c w := fun w => by
        unfold tm4
        grind
      rw [e0, e0]
      grind
    · unfold erC
      have := ab_le.mp c4
      rw [ab_le]
      unfold uu at *
      grind
