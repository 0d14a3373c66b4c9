/-! closed components: the weights add up to 1 at least -/
theorem one_tab : ∀ m : Fin 4, FP.dsub (FP.i2d (nI (m.val + 1))) (FP.ddiv FP.dconst1 FP.dconst1) = FP.i2d (nI m.val) := by decide +kernel
theorem one_1 : FP.i2d (nI 1) = FP.dconst1 := by decide +kernel
theorem leastP {P : Nat → Prop} : ∀ n, P n → ∃ m, P m ∧ ∀ i, i < m → ¬ P i := fun n => Nat.strongRecOn n (fun n ih h => by
    rcases Classical.em (∃ i, i < n ∧ P i) with ⟨i, hi, hp⟩ | hno
    · exact ih i hi hp
    · exact ⟨n, h, fun i hi hp => hno ⟨i, hi, hp⟩⟩)
theorem mk2_ex {tk : Nat → Int32} {dg mk : Nat → UInt64} {dn : Nat → Nat} (hD : DgH tk dg dn) (hm : ∀ c, c < 36 → mk c = mkV dg mk tk c) {c : Nat} (h : tC tk c) (hcl : (dn c : Rat) = nn (eC tk) c) (h1 : ∀ w, (w = 0 ∨ w = 2) → nbT tk c w → mk (nbN c w) = FP.dconst1) : mk2 dg mk tk c = FP.i2d (nI (ruN tk c)) := by
  have e : dn c = ruN tk c + lbN tk c := by
    have : (dn c : Rat) = ((ruN tk c + lbN tk c : Nat) : Rat) := by
      rw [hcl, nn_v h, Rat.natCast_add, ruN_v, lbN_v]
      grind
    exact Rat.natCast_inj.mp this
  have r2 := ruN_2 tk c
  have d := (hD.1 c h.1).1
  have d4 := (hD.1 c h.1).2
  unfold mk2 mk1
  unfold lbN at e
  rcases Classical.em (nbT tk c 0) with a | a <;> rcases Classical.em (nbT tk c 2) with b | b
  · obtain ⟨-, n2, n3, -⟩ := nb_pos h.1 (by omega) a
    obtain ⟨-, p2, p3, -⟩ := nb_pos h.1 (by omega) b
    rw [if_pos a, if_pos b] at e
    rw [if_neg n2, if_neg p2, n3, p3, h1 0 (Or.inl rfl) a, h1 2 (Or.inr rfl) b, d, e]
    have t1 := one_tab ⟨ruN tk c + 1, by omega⟩
    have t2 := one_tab ⟨ruN tk c, by omega⟩
    have t1 : FP.dsub (FP.i2d (nI (ruN tk c + 1 + 1))) (FP.ddiv FP.dconst1 FP.dconst1) = FP.i2d (nI (ruN tk c + 1)) := t1
    rw [show ruN tk c + (1 + 1) = ruN tk c + 1 + 1 by omega, t1]
    exact t2
  · obtain ⟨-, n2, n3, -⟩ := nb_pos h.1 (by omega) a
    have p2 := nb_neg h.1 (by omega) b
    rw [if_pos a, if_neg b] at e
    rw [if_neg n2, if_pos p2, n3, h1 0 (Or.inl rfl) a, d, e]
    exact one_tab ⟨ruN tk c, by omega⟩
  · have n2 := nb_neg h.1 (by omega) a
    obtain ⟨-, p2, p3, -⟩ := nb_pos h.1 (by omega) b
    rw [if_neg a, if_pos b] at e
    rw [if_pos n2, if_neg p2, p3, h1 2 (Or.inr rfl) b, d, e, show ruN tk c + (0 + 1) = ruN tk c + 1 by omega]
    exact one_tab ⟨ruN tk c, by omega⟩
  · have n2 := nb_neg h.1 (by omega) a
    have p2 := nb_neg h.1 (by omega) b
    rw [if_neg a, if_neg b] at e
    rw [if_pos n2, if_pos p2, d, e]
    rfl
theorem conn_nb {tk : Nat → Int32} {dg mk : Nat → UInt64} {dn : Nat → Nat} (hD : DgH tk dg dn) (hm : ∀ c, c < 36 → mk c = mkV dg mk tk c) {a c w : Nat} (hc : tC tk c) (hw : w < 4) (h : nbT tk c w) (k : conn (eC tk) a c) : conn (eC tk) a (nbN c w) := by
  refine conn_step k hc.1 ?_
  rw [eC_sym]
  unfold eC
  exact ind_t ⟨hc, tC_nb hD hm hc.1 hw h, w, hw, h.1, rfl⟩
theorem mk_1 {tk : Nat → Int32} {dg mk : Nat → UInt64} {dn : Nat → Nat} (hD : DgH tk dg dn) (hm : ∀ c, c < 36 → mk c = mkV dg mk tk c) {a : Nat} (hT : ∀ c, conn (eC tk) a c → tC tk c) (hcl : clo (eC tk) (fun c => (dn c : Rat)) a) {c0 : Nat} (h0 : ∀ c, c < c0 → conn (eC tk) a c → ruN tk c = 1) : ∀ n c, c < n → c < c0 → conn (eC tk) a c → mk c = FP.dconst1
  | 0, c, h, _, _ => by omega
  | n + 1, c, h, hc, k => by
    have t := hT c k
    have e := mk2_ex hD hm t (hcl c t.1 k) (fun w hw g => by
      have l := nb_lt t.1 hw g.1
      exact mk_1 hD hm hT hcl h0 n (nbN c w) (by omega) (by omega) (conn_nb hD hm t (by omega) g k))
    rw [h0 c hc k, one_1] at e
    obtain ⟨-, -, -, -, -, -, m6⟩ := mk_cell hD hm t.1 (mk_b hD hm t.1 t.2 (Or.inl rfl)) (mk_b hD hm t.1 t.2 (Or.inr rfl))
    rw [e, rv_c1] at m6
    obtain ⟨-, -, -, d4⟩ := dg_v hD t.1
    rcases m6 with ⟨m, -⟩ | ⟨-, m⟩
    · exfalso
      grind
    · exact m
theorem ru_last {tk : Nat → Int32} {dg mk : Nat → UInt64} {dn : Nat → Nat} (hD : DgH tk dg dn) (hm : ∀ c, c < 36 → mk c = mkV dg mk tk c) {a : Nat} (hT : ∀ c, conn (eC tk) a c → tC tk c) : ∀ n c, 36 - c ≤ n → conn (eC tk) a c → ∃ j, conn (eC tk) a j ∧ ruN tk j ≠ 1
  | 0, c, h, k => by
    have := (hT c k).1
    omega
  | n + 1, c, h, k => by
    have t := hT c k
    by_cases h1 : ruN tk c = 1
    · have : nbT tk c 1 ∨ nbT tk c 3 := by
        refine Classical.byContradiction (fun z => ?_)
        unfold ruN at h1
        rw [if_neg (fun y => z (Or.inl y)), if_neg (fun y => z (Or.inr y))] at h1
        omega
      rcases this with g | g
      · have l := nb_gt t.1 (Or.inl rfl) g.1
        exact ru_last hD hm hT n (nbN c 1) (by omega) (conn_nb hD hm t (by omega) g k)
      · have l := nb_gt t.1 (Or.inr rfl) g.1
        exact ru_last hD hm hT n (nbN c 3) (by omega) (conn_nb hD hm t (by omega) g k)
    · exact ⟨c, k, h1⟩
theorem mm_1 {tk : Nat → Int32} {dg mk : Nat → UInt64} {dn : Nat → Nat} (hD : DgH tk dg dn) (hm : ∀ c, c < 36 → mk c = mkV dg mk tk c) {a : Nat} (ha : tC tk a) (hcl : clo (eC tk) (fun c => (dn c : Rat)) a) : 1 ≤ mm (eC tk) (omC tk dg mk) a := by
  have hT : ∀ c, conn (eC tk) a c → tC tk c := fun c k => by
    obtain ⟨n, hn⟩ := k
    exact (rch_lt (T := tC tk) (fun x y h => ⟨(eC_1 h).1, (eC_1 h).1.1⟩) ⟨ha, ha.1⟩ n c hn).1
  obtain ⟨j, j1, j2⟩ := ru_last hD hm hT 36 a (by omega) (conn_refl _ a)
  obtain ⟨c0, ⟨c1, c2⟩, c3⟩ := leastP (P := fun j => conn (eC tk) a j ∧ ruN tk j ≠ 1) j ⟨j1, j2⟩
  have h0 : ∀ c, c < c0 → conn (eC tk) a c → ruN tk c = 1 := fun c h k => Classical.byContradiction (fun z => c3 c h ⟨k, z⟩)
  have one := mk_1 hD hm hT hcl h0
  have t := hT c0 c1
  have e := mk2_ex hD hm t (hcl c0 t.1 c1) (fun w hw g => one c0 (nbN c0 w) (nb_lt t.1 hw g.1) (nb_lt t.1 hw g.1) (conn_nb hD hm t (by omega) g c1))
  have r2 := ruN_2 tk c0
  have rve : rv (mk2 dg mk tk c0) = (ruN tk c0 : Rat) := by
    rw [e]
    exact dc_v ⟨ruN tk c0, by omega⟩
  obtain ⟨-, -, -, -, -, -, m6⟩ := mk_cell hD hm t.1 (mk_b hD hm t.1 t.2 (Or.inl rfl)) (mk_b hD hm t.1 t.2 (Or.inr rfl))
  rw [rve] at m6
  obtain ⟨-, d2, -, d4⟩ := dg_v hD t.1
  have d1 : (1 : Rat) ≤ dn c0 := nat_rat (hD.2 c0 t.1 t.2).1
  have fnn : ∀ c, 0 ≤ ind (conn (eC tk) a c) * (omC tk dg mk c * 1) := fun c => Rat.mul_nonneg (ind_nn _) (Rat.mul_nonneg (om_nn hD hm c) (by decide))
  unfold mm phi
  have hz : ruN tk c0 = 0 ∨ ruN tk c0 = 2 := by omega
  rcases hz with hz | hz
  · rw [hz] at m6 rve
    have z0 : ((0 : Nat) : Rat) = 0 := rfl
    rw [z0] at m6 rve
    have o := (om_ge hD hm t).1
    have : rv (mk c0) = dn c0 := by
      rcases m6 with ⟨-, m⟩ | ⟨m, -⟩
      · rw [m, d2]
      · exfalso; grind
    have s := sm_one (f := fun c => ind (conn (eC tk) a c) * (omC tk dg mk c * 1)) 36 c0 t.1 (fun c _ => fnn c)
    refine Rat.le_trans ?_ s
    show 1 ≤ ind (conn (eC tk) a c0) * (omC tk dg mk c0 * 1)
    rw [ind_t c1]
    grind
  · rw [hz] at m6 rve
    have z0 : ((2 : Nat) : Rat) = 2 := rfl
    rw [z0] at m6 rve
    have mv : rv (mk c0) = 2 := by
      rcases m6 with ⟨m, -⟩ | ⟨-, m⟩
      · exfalso; grind
      · rw [m, rve]
    have g : nbT tk c0 1 ∧ nbT tk c0 3 := by
      unfold ruN at hz
      constructor
      · refine Classical.byContradiction (fun z => ?_)
        rw [if_neg z] at hz
        split at hz <;> omega
      · refine Classical.byContradiction (fun z => ?_)
        rw [if_neg z] at hz
        split at hz <;> omega
    have ruv : ru (eC tk) c0 = 2 := by rw [ru_v t, ind_t g.1, ind_t g.2]; decide +kernel
    obtain ⟨-, -, v1, v3⟩ := g_rv ⟨c0, t.1⟩
    obtain ⟨v1a, v1b⟩ := v1 g.1.1
    obtain ⟨v3a, v3b⟩ := v3 g.2.1
    have v1a : nbI (nbN c0 1) 0 = true := v1a
    have v1b : nbN (nbN c0 1) 0 = c0 := v1b
    have v3a : nbI (nbN c0 3) 2 = true := v3a
    have v3b : nbN (nbN c0 3) 2 = c0 := v3b
    have tR := tC_nb hD hm t.1 (by omega) g.1
    have tU := tC_nb hD hm t.1 (by omega) g.2
    have oR := (om_ge hD hm tR).2.1
    have oU := (om_ge hD hm tU).2.2
    have hv : ∀ w x, nbI x w = true → nbN x w = c0 → tm4 tk (fun p => (ru (eC tk) p - 1) * wD (dC tk mk) p) x w = 1 / 2 := fun w x p1 p2 => by
      unfold tm4
      rw [ind_t ⟨p1, by rw [p2]; exact t.2⟩, p2]
      show 1 * ((ru (eC tk) c0 - 1) * wD (dC tk mk) c0) = 1 / 2
      rw [ruv]
      unfold wD
      rw [dC_T t, mv]
      decide +kernel
    rw [hv 0 _ v1a v1b] at oR
    rw [hv 2 _ v3a v3b] at oU
    have cR := conn_nb hD hm t (by omega) g.1 c1
    have cU := conn_nb hD hm t (by omega) g.2 c1
    have hne : nbN c0 1 ≠ nbN c0 3 := fun z => by
      have := g_inj ⟨c0, t.1⟩ ⟨1, by omega⟩ ⟨3, by omega⟩ g.1.1 g.2.1 z
      exact absurd (congrArg Fin.val this) (by show ¬ (1 : Nat) = 3; decide)
    have s1 := sm_del (fun _ => 1 / 2) (nbN c0 1) 36 tR.1
    have s2 := sm_del (fun _ => 1 / 2) (nbN c0 3) 36 tU.1
    have s3 := sm_add (fun j => ind (nbN c0 1 = j) * (1 / 2)) (fun j => ind (nbN c0 3 = j) * (1 / 2)) 36
    rw [s1, s2] at s3
    have s4 : sm (fun j => ind (nbN c0 1 = j) * (1 / 2) + ind (nbN c0 3 = j) * (1 / 2)) 36 ≤ sm (fun c => ind (conn (eC tk) a c) * (omC tk dg mk c * 1)) 36 := sm_le 36 (fun j _ => by
      show ind (nbN c0 1 = j) * (1 / 2) + ind (nbN c0 3 = j) * (1 / 2) ≤ ind (conn (eC tk) a j) * (omC tk dg mk j * 1)
      by_cases h1 : nbN c0 1 = j
      · rw [ind_t h1, ind_f (fun z => hne (by rw [h1, z])), ← h1, ind_t cR]
        grind
      · by_cases h2 : nbN c0 3 = j
        · rw [ind_f h1, ind_t h2, ← h2, ind_t cU]
          grind
        · rw [ind_f h1, ind_f h2]
          have := fnn j
          grind)
    rw [s3] at s4
    refine Rat.le_trans ?_ s4
    decide +kernel
theorem sys {tk : Nat → Int32} {dg mk : Nat → UInt64} {dn : Nat → Nat} (hD : DgH tk dg dn) (hm : ∀ c, c < 36 → mk c = mkV dg mk tk c) (hcnt : sm (fun c => ind (tC tk c)) 36 ≤ 24) : Sys (eC tk) (fun c => (dn c : Rat)) (omC tk dg mk) (tC tk) := ⟨eC_sym tk, eC_01 tk, fun _ _ h => ⟨(eC_1 h).1, (eC_1 h).1.1⟩, fun _ hc => sys_4 hD hc, fun c _ => om_nn hD hm c, fun _ _ ht hcl => mm_1 hD hm ht hcl, hcnt⟩
