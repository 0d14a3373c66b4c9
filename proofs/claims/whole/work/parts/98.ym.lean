/-! the first rest: its energy, and that closed components have none of it -/
def rev4 (w : Nat) : Nat := match w with
  | 0 => 1
  | 1 => 0
  | 2 => 3
  | _ => 2
theorem g_rev4 : ∀ c : Fin 36, ∀ w : Fin 4, nbI c.val w.val = true → nbI (nbN c.val w.val) (rev4 w.val) = true ∧ nbN (nbN c.val w.val) (rev4 w.val) = c.val ∧ rev4 w.val < 4 := by decide +kernel
noncomputable def gam (tk : Nat → Int32) (g : Nat → Nat → Rat) (c j : Nat) : Rat := sm (fun w => ind (tC tk c ∧ nbT tk c w ∧ nbN c w = j) * g c w) 4
theorem gam_1 {tk : Nat → Int32} {g : Nat → Nat → Rat} {c w : Nat} (hc : tC tk c) (hw : w < 4) (h : nbT tk c w) : gam tk g c (nbN c w) = g c w := by
  unfold gam
  rw [sm_congr (g := fun v => ind (w = v) * g c v) 4 (fun v hv => ?_), sm_del _ w 4 hw]
  by_cases e : w = v
  · subst e
    rw [ind_t ⟨hc, h, rfl⟩, ind_t rfl]
  · rw [ind_f e, ind_f (fun z => e ?_)]
    have := g_inj ⟨c, hc.1⟩ ⟨w, hw⟩ ⟨v, hv⟩ h.1 z.2.1.1 z.2.2.symm
    exact congrArg Fin.val this
theorem gam_0 {tk : Nat → Int32} {g : Nat → Nat → Rat} {c j : Nat} (h : ¬ ∃ w, w < 4 ∧ tC tk c ∧ nbT tk c w ∧ nbN c w = j) : gam tk g c j = 0 := sm_0 4 (fun w hw => by rw [ind_f (fun z => h ⟨w, hw, z⟩), Rat.zero_mul])
theorem gam_x {tk : Nat → Int32} {c j : Nat} (h : ∃ w, w < 4 ∧ tC tk c ∧ nbT tk c w ∧ nbN c w = j) : ∃ v, v < 4 ∧ tC tk j ∧ nbT tk j v ∧ nbN j v = c := by
  obtain ⟨w, hw, h1, h2, h3⟩ := h
  subst h3
  obtain ⟨a, b, d⟩ := g_rev4 ⟨c, h1.1⟩ ⟨w, hw⟩ h2.1
  have b : nbN (nbN c w) (rev4 w) = c := b
  exact ⟨rev4 w, d, ⟨nb_36 h1.1 hw h2.1, h2.2⟩, ⟨a, by rw [b]; exact h1.2⟩, b⟩
abbrev antiG (tk : Nat → Int32) (g : Nat → Nat → Rat) : Prop := ∀ c w, tC tk c → w < 4 → nbT tk c w → g (nbN c w) (rev4 w) = -g c w
theorem gam_anti {tk : Nat → Int32} {g : Nat → Nat → Rat} (hg : antiG tk g) (c j : Nat) : gam tk g j c = -gam tk g c j := by
  rcases Classical.em (∃ w, w < 4 ∧ tC tk c ∧ nbT tk c w ∧ nbN c w = j) with h | h
  · obtain ⟨w, hw, h1, h2, h3⟩ := h
    subst h3
    obtain ⟨a, b, d⟩ := g_rev4 ⟨c, h1.1⟩ ⟨w, hw⟩ h2.1
    have b : nbN (nbN c w) (rev4 w) = c := b
    rw [gam_1 h1 hw h2]
    have tn : tC tk (nbN c w) := ⟨nb_36 h1.1 hw h2.1, h2.2⟩
    have nt : nbT tk (nbN c w) (rev4 w) := ⟨a, by rw [b]; exact h1.2⟩
    have := gam_1 (g := g) tn d nt
    rw [b] at this
    rw [this]
    exact hg c w h1 hw h2
  · rw [gam_0 h, gam_0 (fun z => h (gam_x z))]
    decide +kernel
theorem gam_dot {tk : Nat → Int32} {g : Nat → Nat → Rat} {c : Nat} (hc : tC tk c) (F : Nat → Rat) : sm (fun j => gam tk g c j * F j) 36 = sm (fun w => ind (nbT tk c w) * (g c w * F (nbN c w))) 4 := by
  have e1 : sm (fun j => gam tk g c j * F j) 36 = sm (fun j => sm (fun w => ind (nbT tk c w) * (ind (nbN c w = j) * (g c w * F j))) 4) 36 := sm_congr 36 (fun j _ => by
    unfold gam
    rw [Rat.mul_comm, ← sm_mul]
    refine sm_congr 4 (fun w _ => ?_)
    rcases Classical.em (nbT tk c w) with h | h
    · by_cases e : nbN c w = j
      · rw [ind_t ⟨hc, h, e⟩, ind_t h, ind_t e]
        generalize g c w = G
        generalize F j = K
        grind
      · rw [ind_f (fun z => e z.2.2), ind_f e, Rat.zero_mul, Rat.zero_mul, Rat.mul_zero, Rat.mul_zero]
    · rw [ind_f (fun z => h z.2.1), ind_f h, Rat.zero_mul, Rat.zero_mul, Rat.mul_zero])
  rw [e1, sm_swap]
  refine sm_congr 4 (fun w hw => ?_)
  rw [sm_mul]
  rcases Classical.em (nbT tk c w) with h | h
  · rw [sm_del (fun j => g c w * F j) (nbN c w) 36 (nb_36 hc.1 hw h.1)]
  · rw [ind_f h, Rat.zero_mul, Rat.zero_mul]
theorem gam_sum {tk : Nat → Int32} {g : Nat → Nat → Rat} (hg : antiG tk g) (y : Nat → Rat) : sm (fun c => sm (fun j => gam tk g c j * (y c + y j)) 36) 36 = 0 := by
  have e1 : sm (fun c => sm (fun j => gam tk g c j * (y c + y j)) 36) 36 = sm (fun c => sm (fun j => gam tk g c j * y c) 36) 36 + sm (fun c => sm (fun j => gam tk g c j * y j) 36) 36 := by
    rw [← sm_add]
    refine sm_congr 36 (fun c _ => ?_)
    rw [← sm_add]
    refine sm_congr 36 (fun j _ => ?_)
    generalize gam tk g c j = G
    grind
  have e2 : sm (fun c => sm (fun j => gam tk g c j * y j) 36) 36 = sm (fun j => sm (fun c => (-1) * (gam tk g j c * y j)) 36) 36 := by
    rw [sm_swap]
    refine sm_congr 36 (fun j _ => sm_congr 36 (fun c _ => ?_))
    rw [gam_anti hg j c]
    generalize gam tk g j c = G
    grind
  have e3 : sm (fun j => sm (fun c => (-1) * (gam tk g j c * y j)) 36) 36 = (-1) * sm (fun c => sm (fun j => gam tk g c j * y c) 36) 36 := by
    rw [← sm_mul]
    exact sm_congr 36 (fun j _ => sm_mul (-1) _ 36)
  rw [e1, e2, e3]
  generalize sm (fun c => sm (fun j => gam tk g c j * y c) 36) 36 = S
  grind
/-- speeds at the sides of cells: o says that a side is open -/
abbrev faceH (tk : Nat → Int32) (dn : Nat → Nat) (g : Nat → Nat → Rat) (o : Nat → Nat → Prop) : Prop := antiG tk g ∧ (∀ c w, tC tk c → w < 4 → ¬ o c w → g c w = 0) ∧ (∀ c w, tC tk c → w < 4 → nbT tk c w → o c w) ∧ ∀ c, tC tk c → (dn c : Rat) = ind (o c 0) + ind (o c 1) + ind (o c 2) + ind (o c 3)
noncomputable def r0 (tk : Nat → Int32) (g : Nat → Nat → Rat) (c : Nat) : Rat := ind (tC tk c) * (-(g c 0 + g c 1 + g c 2 + g c 3))
noncomputable def g2 (tk : Nat → Int32) (g : Nat → Nat → Rat) (c : Nat) : Rat := ind (tC tk c) * (g c 0 * g c 0 + g c 1 * g c 1 + g c 2 * g c 2 + g c 3 * g c 3)
theorem num_h1 {i o g x : Rat} (hi : i = 0 ∨ i = 1) (ho : o = 0 ∨ o = 1) (h1 : i = 1 → o = 1) (h2 : o = 0 → g = 0) : -2 * (1 - i) * (g * x) ≤ (o - i) * (x * x) + (1 - i) * (g * g) := by
  have a := sq_nn (g + x)
  rcases hi with rfl | rfl
  · rcases ho with rfl | rfl
    · rw [h2 rfl]
      grind
    · grind
  · rw [h1 rfl]
    grind
theorem num_h2 {e y d : Rat} (he : e = 0 ∨ e = 1) (h : e = 0 → y = 0) : -(y * d) ≤ 1 / 2 * (e * (d * d)) + 1 / 2 * (y * y) := by
  have a := sq_nn (y + d)
  rcases he with rfl | rfl
  · rw [h rfl]
    grind
  · grind
/-- a cell's part: the sides without a neighbour that takes part -/
theorem out_c {tk : Nat → Int32} {dn : Nat → Nat} {g : Nat → Nat → Rat} {o : Nat → Nat → Prop} (hF : faceH tk dn g o) {c : Nat} (hc : tC tk c) (x : Rat) : -2 * ((1 - ind (nbT tk c 0)) * (g c 0 * x) + (1 - ind (nbT tk c 1)) * (g c 1 * x) + (1 - ind (nbT tk c 2)) * (g c 2 * x) + (1 - ind (nbT tk c 3)) * (g c 3 * x)) ≤ ((dn c : Rat) - nn (eC tk) c) * (x * x) + ((1 - ind (nbT tk c 0)) * (g c 0 * g c 0) + (1 - ind (nbT tk c 1)) * (g c 1 * g c 1) + (1 - ind (nbT tk c 2)) * (g c 2 * g c 2) + (1 - ind (nbT tk c 3)) * (g c 3 * g c 3)) := by
  have k : ∀ w, w < 4 → -2 * (1 - ind (nbT tk c w)) * (g c w * x) ≤ (ind (o c w) - ind (nbT tk c w)) * (x * x) + (1 - ind (nbT tk c w)) * (g c w * g c w) := fun w hw => num_h1 (ind_2 _) (ind_2 _) (fun h => by
    refine ind_t (hF.2.2.1 c w hc hw (Classical.byContradiction (fun z => ?_)))
    rw [ind_f z] at h
    exact absurd h (by decide)) (fun h => hF.2.1 c w hc hw (fun z => by
    rw [ind_t z] at h
    exact absurd h (by decide)))
  have k0 := k 0 (by omega)
  have k1 := k 1 (by omega)
  have k2 := k 2 (by omega)
  have k3 := k 3 (by omega)
  rw [hF.2.2.2 c hc, nn_v hc]
  generalize ind (nbT tk c 0) = i0 at *
  generalize ind (nbT tk c 1) = i1 at *
  generalize ind (nbT tk c 2) = i2 at *
  generalize ind (nbT tk c 3) = i3 at *
  generalize ind (o c 0) = o0 at *
  generalize ind (o c 1) = o1 at *
  generalize ind (o c 2) = o2 at *
  generalize ind (o c 3) = o3 at *
  clear k hF
  generalize x * x = xx at *
  generalize g c 0 * x = y0 at *
  generalize g c 1 * x = y1 at *
  generalize g c 2 * x = y2 at *
  generalize g c 3 * x = y3 at *
  generalize g c 0 * g c 0 = z0 at *
  generalize g c 1 * g c 1 = z1 at *
  generalize g c 2 * g c 2 = z2 at *
  generalize g c 3 * g c 3 = z3 at *
  grind
theorem eb_r0 {tk : Nat → Int32} {dn : Nat → Nat} {g : Nat → Nat → Rat} {o : Nat → Nat → Prop} (hF : faceH tk dn g o) {P : (Nat → Rat) → Prop} (hP : ∀ x, P x → ∀ c, ¬ tC tk c → x c = 0) {B : Rat} (hB : sm (g2 tk g) 36 ≤ B) : EB (eC tk) (fun c => (dn c : Rat)) P (r0 tk g) B := fun x hx => by
  have hx0 := hP x hx
  have q := qA_sq (eC_sym tk) (fun c => (dn c : Rat)) x
  -- the cells' parts
  have key : ∀ c, c < 36 → 2 * (x c * r0 tk g c) ≤ -2 * sm (fun j => gam tk g c j * x c) 36 + ((dn c : Rat) - sm (fun j => eC tk c j) 36) * (x c * x c) + g2 tk g c - sm (fun j => gam tk g c j * gam tk g c j) 36 := fun c hc => by
    rcases Classical.em (tC tk c) with t | t
    · have oc := out_c hF t (x c)
      rw [gam_dot t (fun _ => x c), gam_dot t (fun j => gam tk g c j), sm_4, sm_4]
      have e : ∀ w, w < 4 → ind (nbT tk c w) * (g c w * gam tk g c (nbN c w)) = ind (nbT tk c w) * (g c w * g c w) := fun w hw => by
        rcases Classical.em (nbT tk c w) with h | h
        · rw [gam_1 t hw h]
        · rw [ind_f h, Rat.zero_mul, Rat.zero_mul]
      rw [e 0 (by omega), e 1 (by omega), e 2 (by omega), e 3 (by omega)]
      unfold r0 g2
      rw [ind_t t]
      have en : sm (fun j => eC tk c j) 36 = nn (eC tk) c := rfl
      rw [en]
      generalize ind (nbT tk c 0) = i0 at *
      generalize ind (nbT tk c 1) = i1 at *
      generalize ind (nbT tk c 2) = i2 at *
      generalize ind (nbT tk c 3) = i3 at *
      generalize nn (eC tk) c = n at *
      generalize (dn c : Rat) = d at *
      clear q e en hF hB hP hx hx0
      generalize g c 0 = y0 at *
      generalize g c 1 = y1 at *
      generalize g c 2 = y2 at *
      generalize g c 3 = y3 at *
      generalize x c = X at *
      grind
    · have z : ∀ j, gam tk g c j = 0 := fun j => gam_0 (fun ⟨w, _, h, _⟩ => t h)
      have s1 : sm (fun j => gam tk g c j * x c) 36 = 0 := sm_0 36 (fun j _ => by rw [z j, Rat.zero_mul])
      have s2 : sm (fun j => gam tk g c j * gam tk g c j) 36 = 0 := sm_0 36 (fun j _ => by rw [z j, Rat.zero_mul])
      rw [s1, s2, hx0 c t]
      unfold g2
      rw [ind_f t]
      generalize (dn c : Rat) - sm (fun j => eC tk c j) 36 = d
      generalize r0 tk g c = y
      clear q hF hB hP hx hx0 z s1 s2
      grind
  -- the edges' parts
  have ed : ∀ c, c < 36 → -sm (fun j => gam tk g c j * (x c - x j)) 36 ≤ 1 / 2 * sm (fun j => eC tk c j * ((x c - x j) * (x c - x j))) 36 + 1 / 2 * sm (fun j => gam tk g c j * gam tk g c j) 36 := fun c hc => by
    have a := sm_le (f := fun j => (-1) * (gam tk g c j * (x c - x j))) (g := fun j => 1 / 2 * (eC tk c j * ((x c - x j) * (x c - x j))) + 1 / 2 * (gam tk g c j * gam tk g c j)) 36 (fun j hj => by
      have := num_h2 (d := x c - x j) (eC_01 tk c j) (y := gam tk g c j) (fun h => gam_0 (fun ⟨w, hw, z1, z2, z3⟩ => by
        have : eC tk c j = 1 := by
          unfold eC
          refine ind_t ⟨z1, ⟨?_, ?_⟩, w, hw, z2.1, z3⟩
          · rw [← z3]; exact nb_36 z1.1 hw z2.1
          · rw [← z3]; exact z2.2
        rw [this] at h
        exact absurd h (by decide)))
      show (-1) * (gam tk g c j * (x c - x j)) ≤ _
      rw [show (-1) * (gam tk g c j * (x c - x j)) = -(gam tk g c j * (x c - x j)) by generalize gam tk g c j * (x c - x j) = Y; grind]
      exact this)
    rw [sm_mul, sm_add, sm_mul, sm_mul] at a
    generalize sm (fun j => gam tk g c j * (x c - x j)) 36 = A at *
    generalize sm (fun j => eC tk c j * ((x c - x j) * (x c - x j))) 36 = B' at *
    generalize sm (fun j => gam tk g c j * gam tk g c j) 36 = C at *
    clear key q hF hB hP hx hx0
    grind
  have s1 := sm_le 36 key
  have s2 := sm_le 36 ed
  have g0 := gam_sum hF.1 x
  -- sums
  have e1 : sm (fun c => 2 * (x c * r0 tk g c)) 36 = 2 * dt x (r0 tk g) := sm_mul 2 _ 36
  have e2 : sm (fun c => -2 * sm (fun j => gam tk g c j * x c) 36 + ((dn c : Rat) - sm (fun j => eC tk c j) 36) * (x c * x c) + g2 tk g c - sm (fun j => gam tk g c j * gam tk g c j) 36) 36 = -2 * sm (fun c => sm (fun j => gam tk g c j * x c) 36) 36 + sm (fun c => ((dn c : Rat) - sm (fun j => eC tk c j) 36) * (x c * x c)) 36 + sm (g2 tk g) 36 - sm (fun c => sm (fun j => gam tk g c j * gam tk g c j) 36) 36 := by
    rw [sm_sub, sm_add, sm_add, sm_mul]
  have e3 : sm (fun c => -sm (fun j => gam tk g c j * (x c - x j)) 36) 36 = -sm (fun c => sm (fun j => gam tk g c j * (x c - x j)) 36) 36 := by
    have := sm_mul (-1) (fun c => sm (fun j => gam tk g c j * (x c - x j)) 36) 36
    rw [sm_congr (g := fun c => (-1) * sm (fun j => gam tk g c j * (x c - x j)) 36) 36 (fun c _ => by generalize sm (fun j => gam tk g c j * (x c - x j)) 36 = Y; grind), this]
    generalize sm (fun c => sm (fun j => gam tk g c j * (x c - x j)) 36) 36 = Y
    grind
  have e4 : sm (fun c => 1 / 2 * sm (fun j => eC tk c j * ((x c - x j) * (x c - x j))) 36 + 1 / 2 * sm (fun j => gam tk g c j * gam tk g c j) 36) 36 = 1 / 2 * sm (fun c => sm (fun j => eC tk c j * ((x c - x j) * (x c - x j))) 36) 36 + 1 / 2 * sm (fun c => sm (fun j => gam tk g c j * gam tk g c j) 36) 36 := by
    rw [sm_add, sm_mul, sm_mul]
  have e5 : sm (fun c => sm (fun j => gam tk g c j * (x c + x j)) 36) 36 + sm (fun c => sm (fun j => gam tk g c j * (x c - x j)) 36) 36 = 2 * sm (fun c => sm (fun j => gam tk g c j * x c) 36) 36 := by
    rw [← sm_add, ← sm_mul]
    refine sm_congr 36 (fun c _ => ?_)
    rw [← sm_add, ← sm_mul]
    refine sm_congr 36 (fun j _ => ?_)
    generalize gam tk g c j = G
    generalize x c = a
    generalize x j = b
    grind
  have nn2 : 0 ≤ sm (fun c => sm (fun j => gam tk g c j * gam tk g c j) 36) 36 := sm_nn 36 (fun c _ => sm_nn 36 (fun j _ => sq_nn _))
  rw [e1, e2] at s1
  rw [e3, e4] at s2
  rw [g0] at e5
  generalize dt x (r0 tk g) = Z1 at *
  generalize sm (fun c => sm (fun j => gam tk g c j * x c) 36) 36 = Z2 at *
  generalize sm (fun c => ((dn c : Rat) - sm (fun j => eC tk c j) 36) * (x c * x c)) 36 = Z3 at *
  generalize sm (g2 tk g) 36 = Z4 at *
  generalize sm (fun c => sm (fun j => gam tk g c j * gam tk g c j) 36) 36 = Z5 at *
  generalize sm (fun c => sm (fun j => gam tk g c j * (x c - x j)) 36) 36 = Z6 at *
  generalize sm (fun c => sm (fun j => eC tk c j * ((x c - x j) * (x c - x j))) 36) 36 = Z7 at *
  generalize qA (eC tk) (fun c => (dn c : Rat)) x = Z8 at *
  clear key ed e1 e2 e3 e4 g0 hF hP hx hx0
  grind
