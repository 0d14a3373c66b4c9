/-! M-and-A -/
/-! the form of M against the form of A; the weighted sum of z over a closed component -/
theorem tV_split {e : Nat → Nat → Rat} {dg om : Nat → Rat} {T : Nat → Prop} (hS : Sys e dg om T) {D er : Nat → Rat} {rk : Nat → Nat} (hM : Mak e dg om T D er rk) (x : Nat → Rat) (c : Nat) : tV e D x c = (D c - ru e c) * x c + sm (fun j => uE e c j * (x c - x j)) 36 := by
  unfold tV ru
  have : sm (fun j => uE e c j * (x c - x j)) 36 = x c * sm (fun j => uE e c j) 36 - sm (fun j => uE e c j * x j) 36 := by
    rw [← sm_mul, ← sm_sub]
    exact sm_congr 36 (fun j _ => by grind)
  rw [this]
  grind
theorem uE_half {e : Nat → Nat → Rat} {dg om : Nat → Rat} {T : Nat → Prop} (hS : Sys e dg om T) {D er : Nat → Rat} {rk : Nat → Nat} (hM : Mak e dg om T D er rk) (x : Nat → Rat) : sm (fun c => sm (fun j => uE e c j * ((x c - x j) * (x c - x j))) 36) 36 = sm (fun c => sm (fun j => e c j * ((x c - x j) * (x c - x j))) 36) 36 / 2 := by
  have e1 : sm (fun c => sm (fun j => uE e c j * ((x c - x j) * (x c - x j))) 36) 36 = sm (fun c => sm (fun j => uE e j c * ((x c - x j) * (x c - x j))) 36) 36 := by
    rw [sm_swap]
    exact sm_congr 36 (fun c _ => sm_congr 36 (fun j _ => by grind))
  have e2 : sm (fun c => sm (fun j => e c j * ((x c - x j) * (x c - x j))) 36) 36 = sm (fun c => sm (fun j => uE e c j * ((x c - x j) * (x c - x j))) 36) 36 + sm (fun c => sm (fun j => uE e j c * ((x c - x j) * (x c - x j))) 36) 36 := by
    rw [← sm_add]
    refine sm_congr 36 (fun c _ => ?_)
    rw [← sm_add]
    refine sm_congr 36 (fun j _ => ?_)
    unfold uE
    rcases Nat.lt_trichotomy c j with h | h | h
    · rw [if_pos h, if_neg (by omega)]; grind
    · subst h
      rw [if_neg (by omega), hM.2.2.2.2]
      grind
    · rw [if_neg (by omega), if_pos h, hS.1]; grind
  grind
/-- the sum over the cells that take part -/
theorem sm_T {e : Nat → Nat → Rat} {dg om : Nat → Rat} {T : Nat → Prop} (hS : Sys e dg om T) {D er : Nat → Rat} {rk : Nat → Nat} (hM : Mak e dg om T D er rk) {f : Nat → Rat} {X : Rat} (hX : 0 ≤ X) (h : ∀ c, c < 36 → T c → f c ≤ X) (h0 : ∀ c, c < 36 → ¬ T c → f c ≤ 0) : sm f 36 ≤ 24 * X := by
  have h1 : sm f 36 ≤ sm (fun c => X * ind (T c)) 36 := sm_le 36 (fun c hc => by
    rcases Classical.em (T c) with ht | ht
    · rw [ind_t ht]; have := h c hc ht; grind
    · rw [ind_f ht]; have := h0 c hc ht; grind)
  rw [sm_mul] at h1
  have h2 := Rat.mul_le_mul_of_nonneg_left hS.2.2.2.2.2.2 hX
  grind
theorem qM_qA {e : Nat → Nat → Rat} {dg om : Nat → Rat} {T : Nat → Prop} (hS : Sys e dg om T) {D er : Nat → Rat} {rk : Nat → Nat} (hM : Mak e dg om T D er rk) {x : Nat → Rat} (hx : PP e dg om T x) (hx0 : ∀ c, ¬ T c → x c = 0) : qM e D x ≤ 2409 * qA e dg x := by
  obtain ⟨p1, p2, p3⟩ := qA_parts hS x
  have hQ := hS.qnn x
  have term : ∀ c, c < 36 → wD D c * (tV e D x c * tV e D x c) ≤ 33 / 8 * (x c * x c) + 33 * sm (fun j => uE e c j * ((x c - x j) * (x c - x j))) 36 := fun c hc => by
    have hs0 : 0 ≤ sm (fun j => uE e c j * ((x c - x j) * (x c - x j))) 36 := sm_nn 36 (fun j _ => Rat.mul_nonneg (uE_nn hS.e0 c j) (sq_nn _))
    rcases Classical.em (T c) with ht | ht
    · obtain ⟨d1, d2, d3, -⟩ := hM.2.1 c hc ht
      have hw := wD_D hS hM hc ht
      have hw0 := wD_nn hS hM c
      have hr0 : 0 ≤ ru e c := sm_nn 36 (fun j _ => uE_nn hS.e0 c j)
      rw [tV_split hS hM]
      have cs := sm_csw (w := fun j => uE e c j) (a := fun _ => 1) (b := fun j => x c - x j) 36 (fun j _ => uE_nn hS.e0 c j)
      have f1 : sm (fun j => uE e c j * (1 * 1)) 36 = ru e c := sm_congr 36 (fun j _ => by grind)
      have f2 : sm (fun j => uE e c j * (1 * (x c - x j))) 36 = sm (fun j => uE e c j * (x c - x j)) 36 := sm_congr 36 (fun j _ => by grind)
      rw [f1, f2] at cs
      generalize sm (fun j => uE e c j * (x c - x j)) 36 = g at *
      generalize sm (fun j => uE e c j * ((x c - x j) * (x c - x j))) 36 = G at *
      generalize x c = y at *
      generalize wD D c = w at *
      generalize ru e c = R at *
      generalize D c = d at *
      have a1 : ((d - R) * y + g) * ((d - R) * y + g) ≤ 33 / 32 * ((d - R) * (d - R) * (y * y)) + 33 * (g * g) := by
        have := sq_nn ((d - R) * y - 32 * g)
        grind
      have a2 := Rat.mul_le_mul_of_nonneg_left a1 hw0
      have a3 : w * ((d - R) * (d - R)) ≤ 4 := by
        have b1 : (d - R) * (d - R) ≤ d * d := mul_le2 (by grind) (by grind) (by grind) (by grind)
        have b2 := Rat.mul_le_mul_of_nonneg_left b1 hw0
        have b3 : w * (d * d) = d := by rw [← Rat.mul_assoc, hw, Rat.one_mul]
        rw [b3] at b2
        exact Rat.le_trans b2 d3
      have a4 : w * (g * g) ≤ G := by
        have b1 := Rat.mul_le_mul_of_nonneg_left cs hw0
        have b2 : w * R ≤ 1 := by
          have := Rat.mul_le_mul_of_nonneg_left d2 hw0
          grind
        have b3 := Rat.mul_le_mul_of_nonneg_right b2 hs0
        grind
      have a5 := Rat.mul_le_mul_of_nonneg_right a3 (sq_nn y)
      grind
    · rw [tV_out hS hM ht (hx0 c ht), hx0 c ht]
      grind
  have s1 : qM e D x ≤ sm (fun c => 33 / 8 * (x c * x c) + 33 * sm (fun j => uE e c j * ((x c - x j) * (x c - x j))) 36) 36 := sm_le 36 term
  rw [sm_add, sm_mul, sm_mul, uE_half hS hM] at s1
  have s2 : sm (fun c => x c * x c) 36 ≤ 24 * (24 * qA e dg x) := sm_T hS hM (by grind) (fun c hc ht => poin hS hx hc ht) (fun c hc ht => by rw [hx0 c ht]; grind)
  grind
/-- the sum of M z over a closed component -/
theorem mM_phi {e : Nat → Nat → Rat} {dg om : Nat → Rat} {T : Nat → Prop} (hS : Sys e dg om T) {D er : Nat → Rat} {rk : Nat → Nat} (hM : Mak e dg om T D er rk) {z : Nat → Rat} (hz : ∀ c, ¬ T c → z c = 0) {a : Nat} (ha : a < 36) (hta : T a) (hc : clo e dg a) : dt (fun c => ind (conn e a c)) (mM e D z) = phi e om z a + sm (fun c => ind (conn e a c) * (er c * z c)) 36 := by
  have hx0 : ∀ c, ¬ T c → ind (conn e a c) = 0 := fun c ht => ind_f (fun h => ht (conn_T hS h ha hta).1)
  have edge : ∀ c j, e c j = 1 → ind (conn e a c) = ind (conn e a j) := fun c j h => by
    have h1 := hS.2.2.1 c j h
    have h' : e j c = 1 := by rw [hS.1]; exact h
    have h2 := hS.2.2.1 j c h'
    have : conn e a c = conn e a j := propext ⟨fun k => conn_step k h1.2 h', fun k => conn_step k h2.2 h⟩
    rw [this]
  rw [mM_symm hS hM hx0 hz]
  have tx : ∀ c, tV e D (fun c => ind (conn e a c)) c = (D c - ru e c) * ind (conn e a c) := fun c => by
    rw [tV_split hS hM, sm_0 36 (fun j _ => by
      rcases uE_01 hS.2.1 c j with h | ⟨_, _, h⟩
      · rw [h]; grind
      · rw [edge c j h]; grind)]
    grind
  unfold phi dt
  rw [← sm_add]
  refine sm_congr 36 (fun c h36 => ?_)
  rcases Classical.em (T c) with ht | ht
  · obtain ⟨-, -, -, -, ho, -⟩ := hM.2.1 c h36 ht
    have e1 : mM e D (fun c => ind (conn e a c)) c = ind (conn e a c) * (om c + er c) := by
      unfold mM
      rw [tx]
      have e2 : sm (fun p => uE e p c * (wD D p * tV e D (fun c => ind (conn e a c)) p)) 36 = ind (conn e a c) * (lb e c - sm (fun p => uE e p c * (wD D p * ru e p)) 36) := by
        unfold lb
        rw [← sm_sub, ← sm_mul]
        refine sm_congr 36 (fun p hp => ?_)
        rcases uE_01 hS.2.1 p c with h | ⟨h1, _, h3⟩
        · rw [h]; grind
        · rw [tx, edge p c h3, h1]
          have := wD_D hS hM hp (hS.2.2.1 p c h3).1
          grind
      rw [e2]
      rcases Classical.em (conn e a c) with hk | hk
      · rw [ind_t hk]
        have h1 := hc c h36 hk
        have h2 := nn_rl hS hM c
        grind
      · rw [ind_f hk]
        grind
    rw [e1]
    grind
  · rw [hz c ht]
    grind
