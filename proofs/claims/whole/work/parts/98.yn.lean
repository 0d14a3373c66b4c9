/-! the first rest, rounded: EB and HB -/
theorem num_i1 {i o g s : Rat} (hi : i = 0 ∨ i = 1) (h2 : o = 0 → g = 0) (h3 : o = i) : (1 - i) * (g * s) = 0 := by
  rcases hi with rfl | rfl
  · rw [h2 h3]
    grind
  · grind
theorem o_eq {tk : Nat → Int32} {dn : Nat → Nat} {g : Nat → Nat → Rat} {o : Nat → Nat → Prop} (hF : faceH tk dn g o) {c : Nat} (hc : tC tk c) (hcl : (dn c : Rat) = nn (eC tk) c) : ∀ w, w < 4 → ind (o c w) = ind (nbT tk c w) := by
  rw [hF.2.2.2 c hc, nn_v hc] at hcl
  have k : ∀ w, w < 4 → ind (nbT tk c w) ≤ ind (o c w) := fun w hw => ind_le (hF.2.2.1 c w hc hw)
  have k0 := k 0 (by omega)
  have k1 := k 1 (by omega)
  have k2 := k 2 (by omega)
  have k3 := k 3 (by omega)
  clear k
  have key : ind (o c 0) = ind (nbT tk c 0) ∧ ind (o c 1) = ind (nbT tk c 1) ∧ ind (o c 2) = ind (nbT tk c 2) ∧ ind (o c 3) = ind (nbT tk c 3) := by
    generalize ind (nbT tk c 0) = i0 at *
    generalize ind (nbT tk c 1) = i1 at *
    generalize ind (nbT tk c 2) = i2 at *
    generalize ind (nbT tk c 3) = i3 at *
    generalize ind (o c 0) = o0 at *
    generalize ind (o c 1) = o1 at *
    generalize ind (o c 2) = o2 at *
    generalize ind (o c 3) = o3 at *
    clear hF
    grind
  intro w hw
  match w, hw with
  | 0, _ => exact key.1
  | 1, _ => exact key.2.1
  | 2, _ => exact key.2.2.1
  | 3, _ => exact key.2.2.2
theorem nv_r0 {tk : Nat → Int32} {dn : Nat → Nat} {g : Nat → Nat → Rat} {o : Nat → Nat → Prop} (hF : faceH tk dn g o) {s : Nat → Rat} (hs : NV (eC tk) (fun c => (dn c : Rat)) s) : dt s (r0 tk g) = 0 := by
  have key : ∀ c, c < 36 → s c * r0 tk g c = -1 / 2 * sm (fun j => gam tk g c j * (s c + s j)) 36 := fun c hc => by
    rcases Classical.em (tC tk c) with t | t
    · have es : sm (fun j => gam tk g c j * (s c + s j)) 36 = sm (fun j => gam tk g c j * (2 * s c)) 36 := sm_congr 36 (fun j hj => by
        rcases Classical.em (∃ w, w < 4 ∧ tC tk c ∧ nbT tk c w ∧ nbN c w = j) with h | h
        · obtain ⟨w, hw, z1, z2, z3⟩ := h
          have e1 : eC tk c j = 1 := by
            unfold eC
            refine ind_t ⟨z1, ⟨?_, ?_⟩, w, hw, z2.1, z3⟩
            · rw [← z3]; exact nb_36 z1.1 hw z2.1
            · rw [← z3]; exact z2.2
          rw [← hs.1 c j e1]
          generalize s c = a
          generalize gam tk g c j = b
          grind
        · rw [gam_0 h, Rat.zero_mul, Rat.zero_mul])
      rw [es, gam_dot t (fun _ => 2 * s c), sm_4]
      unfold r0
      rw [ind_t t]
      rcases Classical.em ((dn c : Rat) = nn (eC tk) c) with hd | hd
      · have oe := o_eq hF t hd
        have k : ∀ w, w < 4 → (1 - ind (nbT tk c w)) * (g c w * s c) = 0 := fun w hw => num_i1 (o := ind (o c w)) (ind_2 _) (fun h => hF.2.1 c w t hw (fun z => by
          rw [ind_t z] at h
          exact absurd h (by decide))) (oe w hw)
        have k0 := k 0 (by omega)
        have k1 := k 1 (by omega)
        have k2 := k 2 (by omega)
        have k3 := k 3 (by omega)
        clear k oe hd es hs hF
        generalize ind (nbT tk c 0) = i0 at *
        generalize ind (nbT tk c 1) = i1 at *
        generalize ind (nbT tk c 2) = i2 at *
        generalize ind (nbT tk c 3) = i3 at *
        generalize g c 0 = y0 at *
        generalize g c 1 = y1 at *
        generalize g c 2 = y2 at *
        generalize g c 3 = y3 at *
        generalize s c = X at *
        grind
      · rw [hs.2 c hc hd]
        grind
    · have z : ∀ j, gam tk g c j = 0 := fun j => gam_0 (fun ⟨w, _, h, _⟩ => t h)
      rw [sm_0 36 (fun j _ => by rw [z j, Rat.zero_mul])]
      unfold r0
      rw [ind_f t]
      grind
  have e : dt s (r0 tk g) = sm (fun c => -1 / 2 * sm (fun j => gam tk g c j * (s c + s j)) 36) 36 := sm_congr 36 key
  rw [e, sm_mul, gam_sum hF.1 s, Rat.mul_zero]
theorem num_i2 {a b x y : Rat} (ha : ab a ≤ x) (hb : ab b ≤ x) {c d : Rat} (hc : ab c ≤ y) (hd : ab d ≤ y) : a * a + b * b + c * c + d * d ≤ 2 * (x * x) + 2 * (y * y) := by
  have h1 := sq_le2 ha
  have h2 := sq_le2 hb
  have h3 := sq_le2 hc
  have h4 := sq_le2 hd
  generalize a * a = p1 at *
  generalize b * b = p2 at *
  generalize c * c = p3 at *
  generalize d * d = p4 at *
  grind
theorem num_i3 {x f Q : Rat} (hf : ab f ≤ 90 * uu) (hQ : x * x ≤ 24 * Q) : 2 * (x * f) ≤ 1 / 2 ^ 30 * (24 * Q) + 2 ^ 30 * (8100 * uu * uu) := by
  have a := sq_nn (x - 2 ^ 30 * f)
  have b := sq_le2 hf
  have e : (x - 2 ^ 30 * f) * (x - 2 ^ 30 * f) = x * x - 2 ^ 30 * (2 * (x * f)) + 2 ^ 60 * (f * f) := by grind
  rw [e] at a
  rw [show 90 * uu * (90 * uu) = 8100 * uu * uu by grind] at b
  generalize x * f = p1 at *
  generalize f * f = p2 at *
  generalize x * x = p3 at *
  generalize 8100 * uu * uu = p4 at *
  clear e hf
  grind
/-- the first rest as it is computed -/
theorem first_r {tk : Nat → Int32} {dn : Nat → Nat} {g : Nat → Nat → Rat} {o : Nat → Nat → Prop} (hF : faceH tk dn g o) {om : Nat → Rat} (hS : Sys (eC tk) (fun c => (dn c : Rat)) om (tC tk)) {D er : Nat → Rat} {rk : Nat → Nat} (hM : Mak (eC tk) (fun c => (dn c : Rat)) om (tC tk) D er rk) (hg : ∀ c, tC tk c → ab (g c 0) ≤ 8 + 2048 * uu ∧ ab (g c 1) ≤ 8 + 2048 * uu ∧ ab (g c 2) ≤ 12 + 2100 * uu ∧ ab (g c 3) ≤ 12 + 2100 * uu) {r : Nat → Rat} (hr : ∀ c, tC tk c → ab (r c + (g c 0 + g c 1 + g c 2 + g c 3)) ≤ 90 * uu) (hr0 : ∀ c, ¬ tC tk c → r c = 0) : EB (eC tk) (fun c => (dn c : Rat)) (PS (eC tk) (fun c => (dn c : Rat)) om (tC tk)) r 9999 ∧ HB (eC tk) (fun c => (dn c : Rat)) r (3000 * uu) := by
  have hB : sm (g2 tk g) 36 ≤ 9985 := by
    refine Rat.le_trans (sm_T hS hM (X := 2 * ((8 + 2048 * uu) * (8 + 2048 * uu)) + 2 * ((12 + 2100 * uu) * (12 + 2100 * uu))) (by decide +kernel) (fun c hc t => ?_) (fun c hc t => ?_)) (by decide +kernel)
    · unfold g2
      rw [ind_t t, Rat.one_mul]
      obtain ⟨a, b, c, d⟩ := hg c t
      exact num_i2 a b c d
    · unfold g2
      rw [ind_f t, Rat.zero_mul]
      exact Rat.le_refl
  have hf : ∀ c, c < 36 → (tC tk c → ab (r c - r0 tk g c) ≤ 90 * uu) ∧ (¬ tC tk c → r c - r0 tk g c = 0) := fun c hc => by
    unfold r0
    refine ⟨fun t => ?_, fun t => ?_⟩
    · rw [ind_t t, Rat.one_mul]
      have := hr c t
      rw [show r c - -(g c 0 + g c 1 + g c 2 + g c 3) = r c + (g c 0 + g c 1 + g c 2 + g c 3) by generalize r c = X; generalize g c 0 + g c 1 + g c 2 + g c 3 = Y; grind]
      exact this
    · rw [ind_f t, hr0 c t]
      grind
  have er : ∀ c, r c = r0 tk g c + 1 * (r c - r0 tk g c) := fun c => by
    generalize r c = X
    generalize r0 tk g c = Y
    grind
  constructor
  · have e0 := eb_r0 hF (P := PS (eC tk) (fun c => (dn c : Rat)) om (tC tk)) (fun x hx => hx.2) hB
    have e1 := eb_pert (PS_lsp hS hM) (f := fun c => r c - r0 tk g c) (th := 576 / 2 ^ 30) (et := 24 * (2 ^ 30 * (8100 * uu * uu))) (by decide +kernel) e0 (fun x hx => by
      have k : ∀ c, c < 36 → 2 * (x c * (r c - r0 tk g c)) ≤ ind (tC tk c) * (1 / 2 ^ 30 * (24 * qA (eC tk) (fun c => (dn c : Rat)) x) + 2 ^ 30 * (8100 * uu * uu)) := fun c hc => by
        rcases Classical.em (tC tk c) with t | t
        · rw [ind_t t, Rat.one_mul]
          have p := poin hS hx.1 hc t
          have f1 := (hf c hc).1 t
          exact num_i3 f1 p
        · rw [ind_f t, (hf c hc).2 t, Rat.mul_zero, Rat.mul_zero, Rat.zero_mul]
          exact Rat.le_refl
      have q0 := hS.qnn x
      have s := sm_le 36 k
      have e2 : sm (fun c => 2 * (x c * (r c - r0 tk g c))) 36 = 2 * dt x (fun c => r c - r0 tk g c) := sm_mul 2 _ 36
      rw [e2] at s
      refine Rat.le_trans s ?_
      have e3 : sm (fun c => ind (tC tk c) * (1 / 2 ^ 30 * (24 * qA (eC tk) (fun c => (dn c : Rat)) x) + 2 ^ 30 * (8100 * uu * uu))) 36 = (1 / 2 ^ 30 * (24 * qA (eC tk) (fun c => (dn c : Rat)) x) + 2 ^ 30 * (8100 * uu * uu)) * sm (fun c => ind (tC tk c)) 36 := by
        rw [← sm_mul]
        exact sm_congr 36 (fun c _ => Rat.mul_comm _ _)
      rw [e3]
      have n24 := hS.2.2.2.2.2.2
      have w0 : 0 ≤ 2 ^ 30 * (8100 * uu * uu) := by decide +kernel
      generalize qA (eC tk) (fun c => (dn c : Rat)) x = Q at *
      have := Rat.mul_le_mul_of_nonneg_left n24 (show 0 ≤ 1 / 2 ^ 30 * (24 * Q) + 2 ^ 30 * (8100 * uu * uu) by clear s k e0 hf er hF hS hM; grind)
      refine Rat.le_trans this ?_
      generalize 2 ^ 30 * (8100 * uu * uu) = W at *
      clear s k e0 hf er hF hS hM e2 e3 this
      grind)
    have e2 := eb_mono e1 (B' := 9999) (by decide +kernel)
    exact eb_congr e2 (fun c _ => er c)
  · intro s hs hs1
    have e1 : dt s r = dt s (r0 tk g) + 1 * dt s (fun c => r c - r0 tk g c) := by
      rw [← dt_lin2]
      exact dt_congr (fun _ _ => rfl) (fun c _ => er c)
    rw [e1, nv_r0 hF hs, Rat.zero_add, Rat.one_mul]
    refine Rat.le_trans (dt_ab _ _) ?_
    refine Rat.le_trans (sm_T hS hM (X := 90 * uu) (by decide +kernel) (fun c hc t => ?_) (fun c hc t => ?_)) (by decide +kernel)
    · have := mul_le2 (hs1 c hc) ((hf c hc).1 t) (ab_nn _) (by decide +kernel)
      rw [Rat.one_mul] at this
      exact this
    · rw [(hf c hc).2 t, show ab (0 : Rat) = 0 from rfl, Rat.mul_zero]
      exact Rat.le_refl
