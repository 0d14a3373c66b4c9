/-! M -/
/-! the product by which z is made -/
theorem sm_csw {w a b : Nat → Rat} : ∀ n, (∀ i, i < n → 0 ≤ w i) → sm (fun i => w i * (a i * b i)) n * sm (fun i => w i * (a i * b i)) n ≤ sm (fun i => w i * (a i * a i)) n * sm (fun i => w i * (b i * b i)) n
  | 0, _ => by rw [sm, sm, sm]; exact Rat.le_refl
  | n + 1, hw => by
    have ih := sm_csw (w := w) (a := a) (b := b) n (fun i hi => hw i (by omega))
    have hA := sm_nn (f := fun i => w i * (a i * a i)) n (fun i hi => Rat.mul_nonneg (hw i (by omega)) (sq_nn _))
    have hB := sm_nn (f := fun i => w i * (b i * b i)) n (fun i hi => Rat.mul_nonneg (hw i (by omega)) (sq_nn _))
    have hn := hw n (by omega)
    rw [sm, sm, sm]
    generalize sm (fun i => w i * (a i * b i)) n = S at *
    generalize sm (fun i => w i * (a i * a i)) n = A at *
    generalize sm (fun i => w i * (b i * b i)) n = B at *
    generalize a n = x at *
    generalize b n = y at *
    generalize w n = v at *
    have hx := sq_nn x
    have hy := sq_nn y
    have k1 : 2 * (S * (x * y)) ≤ A * (y * y) + B * (x * x) := by
      have n1 := Rat.mul_nonneg hA hy
      have n2 := Rat.mul_nonneg hB hx
      refine le_sq (by grind) ?_
      have q1 := sq_nn (A * (y * y) - B * (x * x))
      have q2 := Rat.mul_le_mul_of_nonneg_right ih (Rat.mul_nonneg hx hy)
      have e1 : 2 * (S * (x * y)) * (2 * (S * (x * y))) = 4 * (S * S * (x * x * (y * y))) := by grind
      rw [e1]
      have e2 : (A * (y * y) + B * (x * x)) * (A * (y * y) + B * (x * x)) = (A * (y * y) - B * (x * x)) * (A * (y * y) - B * (x * x)) + 4 * (A * B * (x * x * (y * y))) := by grind
      rw [e2]
      grind
    have k2 := Rat.mul_le_mul_of_nonneg_left k1 hn
    grind
theorem sqa {a b A B X : Rat} (hA : 0 ≤ A) (hB : 0 ≤ B) (hX : 0 ≤ X) (h1 : a * a ≤ A * A * X) (h2 : b * b ≤ B * B * X) : (a + b) * (a + b) ≤ (A + B) * (A + B) * X := by
  have k : a * b ≤ A * B * X := by
    refine le_sq (Rat.mul_nonneg (Rat.mul_nonneg hA hB) hX) ?_
    have := mul_le2 h1 h2 (sq_nn a) (Rat.mul_nonneg (sq_nn B) hX)
    grind
  grind
def uE (e : Nat → Nat → Rat) (c j : Nat) : Rat := if c < j then e c j else 0
def ru (e : Nat → Nat → Rat) (c : Nat) : Rat := sm (fun j => uE e c j) 36
def lb (e : Nat → Nat → Rat) (c : Nat) : Rat := sm (fun j => uE e j c) 36
def wD (D : Nat → Rat) (c : Nat) : Rat := 1 / D c
def tV (e : Nat → Nat → Rat) (D x : Nat → Rat) (c : Nat) : Rat := D c * x c - sm (fun j => uE e c j * x j) 36
def mM (e : Nat → Nat → Rat) (D x : Nat → Rat) (c : Nat) : Rat := tV e D x c - sm (fun p => uE e p c * (wD D p * tV e D x p)) 36
def qM (e : Nat → Nat → Rat) (D x : Nat → Rat) : Rat := sm (fun c => wD D c * (tV e D x c * tV e D x c)) 36
/-- the makers D, and what is known of them -/
abbrev Mak (e : Nat → Nat → Rat) (dg om : Nat → Rat) (T : Nat → Prop) (D er : Nat → Rat) (rk : Nat → Nat) : Prop := (∀ c, 0 ≤ D c) ∧ (∀ c, c < 36 → T c → 1 / 4 ≤ D c ∧ ru e c ≤ D c ∧ D c ≤ 4 ∧ D c + sm (fun p => uE e p c * wD D p) 36 ≤ 6 ∧ om c + er c = D c - dg c + sm (fun p => uE e p c * (wD D p * ru e p)) 36 ∧ ab (er c) ≤ 1 / 2 ^ 49) ∧ (∀ c j, c < j → e c j = 1 → rk j = rk c + 1) ∧ (∀ c, c < 36 → rk c ≤ 10) ∧ ∀ c, e c c = 0
theorem uE_nn {e : Nat → Nat → Rat} (h0 : ∀ a b, 0 ≤ e a b) (c j : Nat) : 0 ≤ uE e c j := by
  unfold uE
  split
  · exact h0 c j
  · exact Rat.le_refl
theorem uE_01 {e : Nat → Nat → Rat} (h : ∀ a b, e a b = 0 ∨ e a b = 1) (c j : Nat) : uE e c j = 0 ∨ (uE e c j = 1 ∧ c < j ∧ e c j = 1) := by
  unfold uE
  by_cases hc : c < j
  · rw [if_pos hc]
    rcases h c j with h | h
    · exact Or.inl h
    · exact Or.inr ⟨h, hc, h⟩
  · rw [if_neg hc]
    exact Or.inl rfl
theorem wD_nn {e : Nat → Nat → Rat} {dg om : Nat → Rat} {T : Nat → Prop} (hS : Sys e dg om T) {D er : Nat → Rat} {rk : Nat → Nat} (hM : Mak e dg om T D er rk) (c : Nat) : 0 ≤ wD D c := by
  unfold wD
  rw [Rat.div_def]
  rcases Rat.le_iff_lt_or_eq.mp (hM.1 c) with h | h
  · have := Rat.inv_pos.mpr h
    grind
  · rw [← h]
    decide +kernel
theorem wD_D {e : Nat → Nat → Rat} {dg om : Nat → Rat} {T : Nat → Prop} (hS : Sys e dg om T) {D er : Nat → Rat} {rk : Nat → Nat} (hM : Mak e dg om T D er rk) {c : Nat} (hc : c < 36) (ht : T c) : wD D c * D c = 1 := by
  unfold wD
  have := (hM.2.1 c hc ht).1
  grind
theorem nn_rl {e : Nat → Nat → Rat} {dg om : Nat → Rat} {T : Nat → Prop} (hS : Sys e dg om T) {D er : Nat → Rat} {rk : Nat → Nat} (hM : Mak e dg om T D er rk) (c : Nat) : nn e c = ru e c + lb e c := by
  unfold nn ru lb
  rw [← sm_add]
  refine sm_congr 36 (fun j _ => ?_)
  unfold uE
  rcases Nat.lt_trichotomy c j with h | h | h
  · rw [if_pos h, if_neg (by omega)]; grind
  · subst h
    rw [if_neg (by omega), hM.2.2.2.2]
    grind
  · rw [if_neg (by omega), if_pos h, hS.1]; grind
theorem tV_out {e : Nat → Nat → Rat} {dg om : Nat → Rat} {T : Nat → Prop} (hS : Sys e dg om T) {D er : Nat → Rat} {rk : Nat → Nat} (hM : Mak e dg om T D er rk) {x : Nat → Rat} {c : Nat} (h : ¬ T c) (hx : x c = 0) : tV e D x c = 0 := by
  unfold tV
  rw [hx, sm_0 36 (fun j _ => by
    rcases uE_01 hS.2.1 c j with h1 | ⟨_, _, h3⟩
    · rw [h1]; grind
    · exact absurd (hS.2.2.1 c j h3).1 h)]
  grind
theorem qM_nn {e : Nat → Nat → Rat} {dg om : Nat → Rat} {T : Nat → Prop} (hS : Sys e dg om T) {D er : Nat → Rat} {rk : Nat → Nat} (hM : Mak e dg om T D er rk) (x : Nat → Rat) : 0 ≤ qM e D x := sm_nn 36 (fun c _ => Rat.mul_nonneg (wD_nn hS hM c) (sq_nn _))
/-- x times M y, as a sum of products -/
theorem mM_dt {e : Nat → Nat → Rat} {dg om : Nat → Rat} {T : Nat → Prop} (hS : Sys e dg om T) {D er : Nat → Rat} {rk : Nat → Nat} (hM : Mak e dg om T D er rk) {x y : Nat → Rat} (hx : ∀ c, ¬ T c → x c = 0) (hy : ∀ c, ¬ T c → y c = 0) : dt x (mM e D y) = sm (fun c => wD D c * (tV e D x c * tV e D y c)) 36 := by
  unfold dt mM
  have e1 : sm (fun c => x c * (tV e D y c - sm (fun p => uE e p c * (wD D p * tV e D y p)) 36)) 36 = sm (fun c => x c * tV e D y c) 36 - sm (fun p => wD D p * tV e D y p * sm (fun c => uE e p c * x c) 36) 36 := by
    have e2 : sm (fun p => wD D p * tV e D y p * sm (fun c => uE e p c * x c) 36) 36 = sm (fun c => x c * sm (fun p => uE e p c * (wD D p * tV e D y p)) 36) 36 := by
      have e3 : ∀ p, wD D p * tV e D y p * sm (fun c => uE e p c * x c) 36 = sm (fun c => uE e p c * (wD D p * tV e D y p) * x c) 36 := fun p => by
        rw [← sm_mul]
        exact sm_congr 36 (fun c _ => by grind)
      rw [sm_congr 36 (fun p _ => e3 p), sm_swap]
      refine sm_congr 36 (fun c _ => ?_)
      rw [← sm_mul]
      exact sm_congr 36 (fun p _ => by grind)
    rw [e2, ← sm_sub]
    exact sm_congr 36 (fun c _ => by grind)
  rw [e1, ← sm_sub]
  refine sm_congr 36 (fun c hc => ?_)
  rcases Classical.em (T c) with ht | ht
  · have hw := wD_D hS hM hc ht
    have e4 : tV e D x c = D c * x c - sm (fun j => uE e c j * x j) 36 := rfl
    rw [e4]
    grind
  · rw [tV_out hS hM ht (hy c ht)]
    grind
theorem mM_cs {e : Nat → Nat → Rat} {dg om : Nat → Rat} {T : Nat → Prop} (hS : Sys e dg om T) {D er : Nat → Rat} {rk : Nat → Nat} (hM : Mak e dg om T D er rk) {x y : Nat → Rat} (hx : ∀ c, ¬ T c → x c = 0) (hy : ∀ c, ¬ T c → y c = 0) : dt x (mM e D y) * dt x (mM e D y) ≤ qM e D x * qM e D y := by
  rw [mM_dt hS hM hx hy]
  exact sm_csw 36 (fun c _ => wD_nn hS hM c)
theorem mM_self {e : Nat → Nat → Rat} {dg om : Nat → Rat} {T : Nat → Prop} (hS : Sys e dg om T) {D er : Nat → Rat} {rk : Nat → Nat} (hM : Mak e dg om T D er rk) {x : Nat → Rat} (hx : ∀ c, ¬ T c → x c = 0) : dt x (mM e D x) = qM e D x := mM_dt hS hM hx hx
theorem mM_symm {e : Nat → Nat → Rat} {dg om : Nat → Rat} {T : Nat → Prop} (hS : Sys e dg om T) {D er : Nat → Rat} {rk : Nat → Nat} (hM : Mak e dg om T D er rk) {x y : Nat → Rat} (hx : ∀ c, ¬ T c → x c = 0) (hy : ∀ c, ¬ T c → y c = 0) : dt x (mM e D y) = dt y (mM e D x) := by
  rw [mM_dt hS hM hx hy, mM_dt hS hM hy hx]
  exact sm_congr 36 (fun c _ => by grind)
/-- a place of M y is bounded by the form -/
theorem mM_le {e : Nat → Nat → Rat} {dg om : Nat → Rat} {T : Nat → Prop} (hS : Sys e dg om T) {D er : Nat → Rat} {rk : Nat → Nat} (hM : Mak e dg om T D er rk) (y : Nat → Rat) {c : Nat} (hc : c < 36) (ht : T c) : mM e D y c * mM e D y c ≤ 6 * qM e D y := by
  obtain ⟨d1, d2, d3, d4, -⟩ := hM.2.1 c hc ht
  have hw := wD_D hS hM hc ht
  have hu : ∀ p, 0 ≤ uE e p c * wD D p := fun p => Rat.mul_nonneg (uE_nn hS.e0 p c) (wD_nn hS hM p)
  have cs := sm_csw (w := fun p => uE e p c * wD D p) (a := fun _ => 1) (b := fun p => tV e D y p) 36 (fun p _ => hu p)
  have f1 : sm (fun p => uE e p c * wD D p * (1 * 1)) 36 = sm (fun p => uE e p c * wD D p) 36 := sm_congr 36 (fun p _ => by grind)
  have f2 : sm (fun p => uE e p c * wD D p * (1 * tV e D y p)) 36 = sm (fun p => uE e p c * (wD D p * tV e D y p)) 36 := sm_congr 36 (fun p _ => by grind)
  rw [f1, f2] at cs
  have hU := sm_nn (f := fun p => uE e p c * wD D p) 36 (fun p _ => hu p)
  have hV := sm_nn (f := fun p => uE e p c * wD D p * (tV e D y p * tV e D y p)) 36 (fun p _ => Rat.mul_nonneg (hu p) (sq_nn _))
  -- the terms are different ones of the form
  have hZ : wD D c * (tV e D y c * tV e D y c) + sm (fun p => uE e p c * wD D p * (tV e D y p * tV e D y p)) 36 ≤ qM e D y := by
    have g1 : sm (fun p => wD D p * (tV e D y p * tV e D y p) - uE e p c * wD D p * (tV e D y p * tV e D y p)) 36 = qM e D y - sm (fun p => uE e p c * wD D p * (tV e D y p * tV e D y p)) 36 := by rw [sm_sub]; rfl
    have g2 := sm_one (f := fun p => wD D p * (tV e D y p * tV e D y p) - uE e p c * wD D p * (tV e D y p * tV e D y p)) 36 c hc (fun p _ => by
      have q := Rat.mul_nonneg (wD_nn hS hM p) (sq_nn (tV e D y p))
      rcases uE_01 hS.2.1 p c with h | ⟨h, _⟩ <;> rw [h] <;> grind)
    have g2 : wD D c * (tV e D y c * tV e D y c) - uE e c c * wD D c * (tV e D y c * tV e D y c) ≤ _ := g2
    have g3 : uE e c c = 0 := by unfold uE; rw [if_neg (by omega)]
    rw [g1, g3] at g2
    grind
  unfold mM
  generalize sm (fun p => uE e p c * (wD D p * tV e D y p)) 36 = b at *
  generalize sm (fun p => uE e p c * wD D p * (tV e D y p * tV e D y p)) 36 = V at *
  generalize sm (fun p => uE e p c * wD D p) 36 = U at *
  generalize tV e D y c = a at *
  generalize wD D c = w at *
  generalize qM e D y = Z at *
  generalize D c = d at *
  have hw0 : 0 ≤ w := by
    refine Rat.not_lt.mp (fun z => ?_)
    have := Rat.mul_pos (show 0 < -w by grind) (show 0 < d by grind)
    grind
  have hA : 0 ≤ w * (a * a) := Rat.mul_nonneg hw0 (sq_nn a)
  have ha : a * a = d * (w * (a * a)) := by grind
  generalize w * (a * a) = A at *
  have k1 : 2 * (-a * b) ≤ d * V + U * A := by
    have n1 := Rat.mul_nonneg (show 0 ≤ d by grind) hV
    have n2 := Rat.mul_nonneg hU hA
    refine le_sq (by grind) ?_
    have q1 := sq_nn (d * V - U * A)
    have q2 : (a * a) * (b * b) ≤ (d * A) * (U * V) := by
      rw [ha]
      exact Rat.mul_le_mul_of_nonneg_left cs (Rat.mul_nonneg (by grind) hA)
    grind
  have k2 : (a - b) * (a - b) ≤ (d + U) * (A + V) := by grind
  have k3 : (d + U) * (A + V) ≤ 6 * Z := mul_le2 d4 hZ (by grind) (by grind)
  grind
/-- a place of z is bounded by the form -/
theorem z_le {e : Nat → Nat → Rat} {dg om : Nat → Rat} {T : Nat → Prop} (hS : Sys e dg om T) {D er : Nat → Rat} {rk : Nat → Nat} (hM : Mak e dg om T D er rk) {z : Nat → Rat} (hz : ∀ c, ¬ T c → z c = 0) : ∀ n c, c < 36 → n = 10 - rk c → z c * z c ≤ (((n + 2 : Nat) : Rat) * ((n + 2 : Nat) : Rat)) * qM e D z
  | n, c, hc, hn => by
    have hZ := qM_nn hS hM z
    rcases Classical.em (T c) with ht | ht
    · obtain ⟨d1, d2, d3, -⟩ := hM.2.1 c hc ht
      have hw := wD_D hS hM hc ht
      have hw0 := wD_nn hS hM c
      have one := sm_one (f := fun c => wD D c * (tV e D z c * tV e D z c)) 36 c hc (fun c _ => Rat.mul_nonneg (wD_nn hS hM c) (sq_nn _))
      have one : wD D c * (tV e D z c * tV e D z c) ≤ qM e D z := one
      have ez : z c = wD D c * tV e D z c + wD D c * sm (fun j => uE e c j * z j) 36 := by
        unfold tV
        grind
      have hwt : (wD D c * tV e D z c) * (wD D c * tV e D z c) ≤ wD D c * qM e D z := by
        have := Rat.mul_le_mul_of_nonneg_left one hw0
        grind
      rcases Classical.em (∃ j, j < 36 ∧ uE e c j ≠ 0) with ⟨j0, hj0, hj1⟩ | hno
      · have r1 : 1 ≤ ru e c := by
          have := sm_one (f := fun j => uE e c j) 36 j0 hj0 (fun j _ => uE_nn hS.e0 c j)
          have this : uE e c j0 ≤ ru e c := this
          rcases uE_01 hS.2.1 c j0 with h | ⟨h, _⟩
          · exact absurd h hj1
          · grind
        have w1 : wD D c ≤ 1 := by
          have h1 : 1 ≤ D c := by grind
          have := Rat.mul_le_mul_of_nonneg_left h1 hw0
          grind
        have hrk : ∀ j, j < 36 → uE e c j ≠ 0 → z j * z j ≤ (((n + 1 : Nat) : Rat) * ((n + 1 : Nat) : Rat)) * qM e D z := fun j hj h => by
          rcases uE_01 hS.2.1 c j with h1 | ⟨_, h2, h3⟩
          · exact absurd h1 h
          · have h4 := hM.2.2.1 c j h2 h3
            have h5 := hM.2.2.2.1 j hj
            have h6 : n - 1 = 10 - rk j := by omega
            have := z_le hS hM hz (n - 1) j hj h6
            rw [show n - 1 + 2 = n + 1 by omega] at this
            exact this
        have hsum : (wD D c * sm (fun j => uE e c j * z j) 36) * (wD D c * sm (fun j => uE e c j * z j) 36) ≤ (((n + 1 : Nat) : Rat) * ((n + 1 : Nat) : Rat)) * qM e D z := by
          have cs := sm_csw (w := fun j => uE e c j) (a := fun _ => 1) (b := z) 36 (fun j _ => uE_nn hS.e0 c j)
          have f1 : sm (fun j => uE e c j * (1 * 1)) 36 = ru e c := sm_congr 36 (fun j _ => by grind)
          have f2 : sm (fun j => uE e c j * (1 * z j)) 36 = sm (fun j => uE e c j * z j) 36 := sm_congr 36 (fun j _ => by grind)
          rw [f1, f2] at cs
          have f3 : sm (fun j => uE e c j * (z j * z j)) 36 ≤ (((n + 1 : Nat) : Rat) * ((n + 1 : Nat) : Rat)) * qM e D z * ru e c := by
            unfold ru
            rw [← sm_mul]
            refine sm_le 36 (fun j hj => ?_)
            rcases Classical.em (uE e c j = 0) with h | h
            · rw [h]; grind
            · have := Rat.mul_le_mul_of_nonneg_left (hrk j hj h) (uE_nn hS.e0 c j)
              grind
          generalize sm (fun j => uE e c j * (z j * z j)) 36 = S2 at *
          generalize sm (fun j => uE e c j * z j) 36 = S1 at *
          have hX : 0 ≤ (((n + 1 : Nat) : Rat) * ((n + 1 : Nat) : Rat)) * qM e D z := Rat.mul_nonneg (sq_nn _) hZ
          generalize (((n + 1 : Nat) : Rat) * ((n + 1 : Nat) : Rat)) * qM e D z = X at *
          generalize wD D c = w at *
          generalize ru e c = R at *
          generalize D c = d at *
          have g1 : R * S2 ≤ R * (X * R) := Rat.mul_le_mul_of_nonneg_left f3 (by grind)
          have g2 : w * R ≤ 1 := by
            have := Rat.mul_le_mul_of_nonneg_left d2 hw0
            grind
          have g3 : (w * R) * (w * R) ≤ 1 * 1 := mul_le2 g2 g2 (Rat.mul_nonneg hw0 (by grind)) (by decide)
          have g4 : w * w * (S1 * S1) ≤ w * w * (R * (X * R)) := Rat.mul_le_mul_of_nonneg_left (by grind) (sq_nn w)
          have g5 := Rat.mul_le_mul_of_nonneg_left g3 hX
          grind
        have hA : (wD D c * tV e D z c) * (wD D c * tV e D z c) ≤ (1 : Rat) * 1 * qM e D z := by
          have := Rat.mul_le_mul_of_nonneg_right w1 hZ
          grind
        have := sqa (A := 1) (B := ((n + 1 : Nat) : Rat)) (by decide) Rat.natCast_nonneg hZ hA hsum
        rw [← ez] at this
        have en : (1 : Rat) + ((n + 1 : Nat) : Rat) = ((n + 2 : Nat) : Rat) := by
          rw [Rat.natCast_add, Rat.natCast_add]
          show (1 : Rat) + ((n : Rat) + 1) = (n : Rat) + 2
          grind
        rw [en] at this
        exact this
      · have s0 : sm (fun j => uE e c j * z j) 36 = 0 := sm_0 36 (fun j hj => by
          have : uE e c j = 0 := Classical.byContradiction (fun z => hno ⟨j, hj, z⟩)
          rw [this]
          grind)
        rw [s0] at ez
        have ez2 : z c = wD D c * tV e D z c := by grind
        rw [← ez2] at hwt
        have w4 : wD D c ≤ 4 := by
          have := Rat.mul_le_mul_of_nonneg_left d1 hw0
          grind
        have h4 := Rat.mul_le_mul_of_nonneg_right w4 hZ
        have h5 : (4 : Rat) ≤ ((n + 2 : Nat) : Rat) * ((n + 2 : Nat) : Rat) := by
          have : (2 : Rat) ≤ ((n + 2 : Nat) : Rat) := by
            have := Rat.natCast_le_natCast.mpr (show 2 ≤ n + 2 by omega)
            exact this
          have := mul_le2 this this (by decide) (by grind)
          grind
        have h6 := Rat.mul_le_mul_of_nonneg_right h5 hZ
        grind
    · rw [hz c ht]
      have := Rat.mul_nonneg (sq_nn ((n + 2 : Nat) : Rat)) hZ
      grind
termination_by n => n
decreasing_by all_goals omega
