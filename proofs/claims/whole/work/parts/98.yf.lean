/-! the matrix times a row, as the argument over numbers wants it -/
theorem tm_st2 {tk : Nat → Int32} {s : Nat → UInt64} {c w : Nat} {x : UInt64} {P E Q : Rat} (hc : c < 36) (hw : w < 4) (hx : fn x) (hx2 : ab (rv x) ≤ 2 ^ 240) (hE : ab (rv x - P) ≤ E) (hs : nbT tk c w → fn (s (nbN c w)) ∧ ab (rv (s (nbN c w))) ≤ 2 ^ 200 ∧ ab (P - rv (s (nbN c w))) ≤ Q) : ab (rv (if nearI tk c w < 0 then x else FP.dsub x (s (nearI tk c w).toNatClampNeg)) - (P - tm4 tk (fun p => rv (s p)) c w)) ≤ E + ind (nbT tk c w) * (uu * (Q + E) + tt) := by
  unfold tm4
  rcases Classical.em (nbT tk c w) with g | g
  · obtain ⟨-, n2, n3, n4⟩ := nb_pos hc hw g
    obtain ⟨h1, h2, h3⟩ := hs g
    obtain ⟨a1, a2⟩ := sub_small hx h1 hx2 (Rat.le_trans h2 (by decide +kernel))
    rw [if_neg n2, n3, ind_t g, Rat.one_mul]
    exact num_t1 a2 hE h3
  · have n2 := nb_neg hc hw g
    rw [if_pos n2, ind_f g, Rat.zero_mul, Rat.zero_mul, Rat.add_zero, show P - 0 = P by grind]
    exact hE
noncomputable def rR (tk : Nat → Int32) (f : Nat → UInt64) (c : Nat) : Rat := ind (tC tk c) * rv (f c)
theorem rR_T {tk : Nat → Int32} {f : Nat → UInt64} {c : Nat} (h : tC tk c) : rR tk f c = rv (f c) := by
  unfold rR
  rw [ind_t h, Rat.one_mul]
theorem rR_F {tk : Nat → Int32} {f : Nat → UInt64} {c : Nat} (h : ¬ tC tk c) : rR tk f c = 0 := by
  unfold rR
  rw [ind_f h, Rat.zero_mul]
theorem rR_in {tk : Nat → Int32} {f : Nat → UInt64} (h0 : ∀ c, c < 36 → tk c = 0 → rv (f c) = 0) {c : Nat} (hc : c < 36) : rR tk f c = rv (f c) := by
  rcases Classical.em (tk c = 0) with h | h
  · rw [rR_F (fun z => z.2 h), h0 c hc h]
  · exact rR_T ⟨hc, h⟩
theorem tm4_rR {tk : Nat → Int32} {f : Nat → UInt64} {c w : Nat} (hc : c < 36) (hw : w < 4) (F : Rat → Rat) : tm4 tk (fun p => F (rR tk f p)) c w = tm4 tk (fun p => F (rv (f p))) c w := tm4_congr (fun k => by
  show F (rR tk f (nbN c w)) = F (rv (f (nbN c w)))
  rw [rR_T ⟨nb_36 hc hw k.1, k.2⟩])
theorem sm_4 (f : Nat → Rat) : sm f 4 = f 0 + f 1 + f 2 + f 3 := by
  show 0 + f 0 + f 1 + f 2 + f 3 = _
  rw [Rat.zero_add]
theorem aS_v {tk : Nat → Int32} {dn : Nat → Nat} {s : Nat → UInt64} {c : Nat} (hc : tC tk c) : aS (eC tk) (fun c => (dn c : Rat)) (rR tk s) c = tP tk dn s c 4 := by
  unfold aS
  rw [eC_dot hc, sm_4, rR_T hc, tm4_rR hc.1 (by omega) (fun x => x), tm4_rR hc.1 (by omega) (fun x => x), tm4_rR hc.1 (by omega) (fun x => x), tm4_rR hc.1 (by omega) (fun x => x)]
  show _ = (dn c : Rat) * rv (s c) - tm4 tk (fun p => rv (s p)) c 0 - tm4 tk (fun p => rv (s p)) c 1 - tm4 tk (fun p => rv (s p)) c 2 - tm4 tk (fun p => rv (s p)) c 3
  generalize tm4 tk (fun p => rv (s p)) c 0 = a0
  generalize tm4 tk (fun p => rv (s p)) c 1 = a1
  generalize tm4 tk (fun p => rv (s p)) c 2 = a2
  generalize tm4 tk (fun p => rv (s p)) c 3 = a3
  generalize (dn c : Rat) * rv (s c) = a4
  grind
theorem Sg_v {tk : Nat → Int32} {s : Nat → UInt64} {c : Nat} (hc : tC tk c) : Sg (eC tk) (rR tk s) c = tS tk s c 4 := by
  unfold Sg
  rw [eC_dot hc (fun i => ab (rR tk s i)), sm_4, rR_T hc, tm4_rR hc.1 (by omega) ab, tm4_rR hc.1 (by omega) ab, tm4_rR hc.1 (by omega) ab, tm4_rR hc.1 (by omega) ab]
  show _ = ab (rv (s c)) + tm4 tk (fun p => ab (rv (s p))) c 0 + tm4 tk (fun p => ab (rv (s p))) c 1 + tm4 tk (fun p => ab (rv (s p))) c 2 + tm4 tk (fun p => ab (rv (s p))) c 3
  generalize tm4 tk (fun p => ab (rv (s p))) c 0 = a0
  generalize tm4 tk (fun p => ab (rv (s p))) c 1 = a1
  generalize tm4 tk (fun p => ab (rv (s p))) c 2 = a2
  generalize tm4 tk (fun p => ab (rv (s p))) c 3 = a3
  generalize ab (rv (s c)) = a4
  grind
noncomputable def tG (tk : Nat → Int32) (s : Nat → UInt64) (c w : Nat) : Rat := tm4 tk (fun p => ab (rv (s c) - rv (s p))) c w
theorem Gg_v {tk : Nat → Int32} {s : Nat → UInt64} {c : Nat} (hc : tC tk c) : Gg (eC tk) (rR tk s) c = tG tk s c 0 + tG tk s c 1 + tG tk s c 2 + tG tk s c 3 := by
  unfold Gg tG
  rw [eC_dot hc (fun i => ab (rR tk s c - rR tk s i)), sm_4, rR_T hc, tm4_rR hc.1 (by omega) (fun x => ab (rv (s c) - x)), tm4_rR hc.1 (by omega) (fun x => ab (rv (s c) - x)), tm4_rR hc.1 (by omega) (fun x => ab (rv (s c) - x)), tm4_rR hc.1 (by omega) (fun x => ab (rv (s c) - x))]
theorem tG_z {tk : Nat → Int32} {s : Nat → UInt64} {c w : Nat} : tG tk s c w = ab (ind (nbT tk c w) * rv (s c) - tm4 tk (fun p => rv (s p)) c w) ∧ 0 ≤ tG tk s c w := by
  unfold tG tm4
  refine ⟨?_, Rat.mul_nonneg (ind_nn _) (ab_nn _)⟩
  rw [show ind (nbT tk c w) * rv (s c) - ind (nbT tk c w) * rv (s (nbN c w)) = ind (nbT tk c w) * (rv (s c) - rv (s (nbN c w))) by grind, ab_mul, ab_of (ind_nn _)]
theorem num_v0 {K s Z A G : Rat} (hK : 0 ≤ K) (hs : ab s = A) (hZ : ab Z ≤ G) : ab (K * s + Z) ≤ K * A + G := by
  have := ab_add (K * s) Z
  rw [ab_mul, ab_of hK, hs] at this
  exact Rat.le_trans this (rat_add_le Rat.le_refl hZ)
theorem num_v1 {a b c d A B C D : Rat} (ha : A = ab a) (hb : B = ab b) (hc : C = ab c) (hd : D = ab d) : ab a ≤ A + B + C + D ∧ ab (a + b) ≤ A + B + C + D ∧ ab (a + b + c) ≤ A + B + C + D ∧ ab (a + b + c + d) ≤ A + B + C + D := by
  have := ab_add a b
  have := ab_add (a + b) c
  have := ab_add (a + b + c) d
  have := ab_nn a
  have := ab_nn b
  have := ab_nn c
  have := ab_nn d
  grind
theorem num_v2 {n i0 i1 i2 i3 s a0 a1 a2 a3 : Rat} (hn : n = i0 + i1 + i2 + i3) : n * s - a0 = (i1 + i2 + i3) * s + (i0 * s - a0) ∧ n * s - a0 - a1 = (i2 + i3) * s + (i0 * s - a0 + (i1 * s - a1)) ∧ n * s - a0 - a1 - a2 = i3 * s + (i0 * s - a0 + (i1 * s - a1) + (i2 * s - a2)) ∧ n * s - a0 - a1 - a2 - a3 = 0 * s + (i0 * s - a0 + (i1 * s - a1) + (i2 * s - a2) + (i3 * s - a3)) := by
  subst hn
  grind
theorem num_v3 {n : Nat} {s x : Rat} (h1 : 1 ≤ n) (h4 : n ≤ 4) (hx : ab (x - (n : Rat) * s) ≤ uu * ab ((n : Rat) * s) + tt) (he : (n = 1 ∨ n = 2 ∨ n = 4) → x = (n : Rat) * s) : ∃ E0, ab (x - (n : Rat) * s) ≤ E0 ∧ (E0 = 0 ∨ ((n : Rat) = 3 ∧ E0 = uu * (3 * ab s) + tt)) := by
  by_cases h3 : n = 3
  · subst h3
    refine ⟨uu * (3 * ab s) + tt, ?_, Or.inr ⟨rfl, rfl⟩⟩
    rw [ab_mul] at hx
    exact hx
  · refine ⟨0, ?_, Or.inl rfl⟩
    rw [he (by omega), show (n : Rat) * s - (n : Rat) * s = 0 by grind, ab_of Rat.le_refl]
    exact Rat.le_refl
theorem tm_fine {tk : Nat → Int32} {dg s : Nat → UInt64} {dn : Nat → Nat} {c : Nat} (hc : tC tk c) (hd : dg c = FP.i2d (nI (dn c))) (hn1 : 1 ≤ dn c) (hn : dn c ≤ 4) (hcl : (dn c : Rat) = nn (eC tk) c) (hs : ∀ j, j < 36 → fn (s j) ∧ ab (rv (s j)) ≤ 2 ^ 100) (hS : tS tk s c 4 ≤ 2 ^ 110) : ab (rv (tmV dg s tk c 4) - tP tk dn s c 4) ≤ u1 * (6 * ab (rv (s c)) + 4 * (tG tk s c 0 + tG tk s c 1 + tG tk s c 2 + tG tk s c 3)) + ty := by
  have S0 : 0 ≤ tS tk s c 4 := Rat.le_trans (ab_nn (rv (s c))) (tS_up tk s c 0 (by omega))
  have crude : ∀ w, w ≤ 4 → fn (tmV dg s tk c w) ∧ ab (rv (tmV dg s tk c w)) ≤ 2 ^ 240 := fun w hw => by
    obtain ⟨f, e⟩ := tm_all hc.1 hd hn hs hS w hw
    obtain ⟨n1, n2, n3⟩ := num_u1 hS S0 (nat_rat hw) Rat.natCast_nonneg
    have hP := num_t5 (tS_up tk s c 0 (by omega)) (tS_up tk s c w (by omega)) (tP_le (tk := tk) (s := s) hn w)
    exact ⟨f, num_t2 e (Rat.le_trans hP n3) n2⟩
  have hP : ∀ w, w < 4 → nbT tk c w → fn (s (nbN c w)) ∧ ab (rv (s (nbN c w))) ≤ 2 ^ 200 ∧ tP tk dn s c (w + 1) = tP tk dn s c w - rv (s (nbN c w)) := fun w hw h => by
    have l := nb_36 hc.1 hw h.1
    refine ⟨(hs _ l).1, Rat.le_trans (hs _ l).2 (by decide +kernel), ?_⟩
    show tP tk dn s c w - tm4 tk (fun p => rv (s p)) c w = _
    unfold tm4
    rw [ind_t h, Rat.one_mul]
  rw [nn_v hc] at hcl
  obtain ⟨p1, p2⟩ := pd_v hn (hs c hc.1).1 (Rat.le_trans (hs c hc.1).2 (by decide +kernel))
  obtain ⟨E0, x0, hE0⟩ := num_v3 hn1 hn p1.2 p2
  obtain ⟨z0, g0⟩ := tG_z (tk := tk) (s := s) (c := c) (w := 0)
  obtain ⟨z1, g1⟩ := tG_z (tk := tk) (s := s) (c := c) (w := 1)
  obtain ⟨z2, g2⟩ := tG_z (tk := tk) (s := s) (c := c) (w := 2)
  obtain ⟨z3, g3⟩ := tG_z (tk := tk) (s := s) (c := c) (w := 3)
  obtain ⟨v0, v1, v2, v3⟩ := num_v1 z0 z1 z2 z3
  obtain ⟨r0, r1, r2, r3⟩ := num_v2 (s := rv (s c)) (a0 := tm4 tk (fun p => rv (s p)) c 0) (a1 := tm4 tk (fun p => rv (s p)) c 1) (a2 := tm4 tk (fun p => rv (s p)) c 2) (a3 := tm4 tk (fun p => rv (s p)) c 3) hcl
  have n0 := ind_nn (nbT tk c 0)
  have n1 := ind_nn (nbT tk c 1)
  have n2 := ind_nn (nbT tk c 2)
  have n3 := ind_nn (nbT tk c 3)
  have G0 : 0 ≤ tG tk s c 0 + tG tk s c 1 + tG tk s c 2 + tG tk s c 3 := Rat.le_trans (ab_nn _) v0
  generalize hG : tG tk s c 0 + tG tk s c 1 + tG tk s c 2 + tG tk s c 3 = G at *
  have q1 : ab (tP tk dn s c 1) ≤ (ind (nbT tk c 1) + ind (nbT tk c 2) + ind (nbT tk c 3)) * ab (rv (s c)) + G := by
    show ab ((dn c : Rat) * rv (s c) - tm4 tk (fun p => rv (s p)) c 0) ≤ _
    rw [r0]
    exact num_v0 (by clear hs hP crude; grind) rfl v0
  have q2 : ab (tP tk dn s c 2) ≤ (ind (nbT tk c 2) + ind (nbT tk c 3)) * ab (rv (s c)) + G := by
    show ab ((dn c : Rat) * rv (s c) - tm4 tk (fun p => rv (s p)) c 0 - tm4 tk (fun p => rv (s p)) c 1) ≤ _
    rw [r1]
    exact num_v0 (by clear hs hP crude; grind) rfl v1
  have q3 : ab (tP tk dn s c 3) ≤ ind (nbT tk c 3) * ab (rv (s c)) + G := by
    show ab ((dn c : Rat) * rv (s c) - tm4 tk (fun p => rv (s p)) c 0 - tm4 tk (fun p => rv (s p)) c 1 - tm4 tk (fun p => rv (s p)) c 2) ≤ _
    rw [r2]
    exact num_v0 n3 rfl v2
  have q4 : ab (tP tk dn s c 4) ≤ G := by
    show ab ((dn c : Rat) * rv (s c) - tm4 tk (fun p => rv (s p)) c 0 - tm4 tk (fun p => rv (s p)) c 1 - tm4 tk (fun p => rv (s p)) c 2 - tm4 tk (fun p => rv (s p)) c 3) ≤ _
    rw [r3, Rat.zero_mul, Rat.zero_add]
    exact v3
  have s0 : ab (rv (tmV dg s tk c 0) - tP tk dn s c 0) ≤ E0 := by
    show ab (rv (FP.dmul (dg c) (s c)) - (dn c : Rat) * rv (s c)) ≤ E0
    rw [hd]
    exact x0
  have s1 := tm_st2 (tk := tk) (s := s) (w := 0) (Q := (ind (nbT tk c 1) + ind (nbT tk c 2) + ind (nbT tk c 3)) * ab (rv (s c)) + G) hc.1 (by omega) (crude 0 (by omega)).1 (crude 0 (by omega)).2 s0 (fun h => by
    obtain ⟨a, b, d⟩ := hP 0 (by omega) h
    rw [← d]
    exact ⟨a, b, q1⟩)
  have s2 := tm_st2 (tk := tk) (s := s) (w := 1) (x := tmV dg s tk c 1) (P := tP tk dn s c 1) (Q := (ind (nbT tk c 2) + ind (nbT tk c 3)) * ab (rv (s c)) + G) hc.1 (by omega) (crude 1 (by omega)).1 (crude 1 (by omega)).2 s1 (fun h => by
    obtain ⟨a, b, d⟩ := hP 1 (by omega) h
    rw [← d]
    exact ⟨a, b, q2⟩)
  have s3 := tm_st2 (tk := tk) (s := s) (w := 2) (x := tmV dg s tk c 2) (P := tP tk dn s c 2) (Q := ind (nbT tk c 3) * ab (rv (s c)) + G) hc.1 (by omega) (crude 2 (by omega)).1 (crude 2 (by omega)).2 s2 (fun h => by
    obtain ⟨a, b, d⟩ := hP 2 (by omega) h
    rw [← d]
    exact ⟨a, b, q3⟩)
  have s4 := tm_st2 (tk := tk) (s := s) (w := 3) (x := tmV dg s tk c 3) (P := tP tk dn s c 3) (Q := G) hc.1 (by omega) (crude 3 (by omega)).1 (crude 3 (by omega)).2 s3 (fun h => by
    obtain ⟨a, b, d⟩ := hP 3 (by omega) h
    rw [← d]
    exact ⟨a, b, q4⟩)
  refine Rat.le_trans s4 (num_tf (ind_2 (nbT tk c 0)) (ind_2 (nbT tk c 1)) (ind_2 (nbT tk c 2)) (ind_2 (nbT tk c 3)) (ab_nn (rv (s c))) G0 ?_ rfl rfl rfl rfl)
  rw [← hcl]
  exact hE0
