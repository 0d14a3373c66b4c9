/-! forms and energies -/
/-! vectors over the cells, the matrix, energies -/
def dt (x y : Nat → Rat) : Rat := sm (fun c => x c * y c) 36
def aS (e : Nat → Nat → Rat) (dg x : Nat → Rat) (c : Nat) : Rat := dg c * x c - sm (fun j => e c j * x j) 36
def qA (e : Nat → Nat → Rat) (dg x : Nat → Rat) : Rat := dt x (aS e dg x)
theorem dt_comm (x y : Nat → Rat) : dt x y = dt y x := sm_congr 36 (fun _ _ => Rat.mul_comm _ _)
theorem dt_lin (x y z : Nat → Rat) (a : Rat) : dt (fun c => x c + a * y c) z = dt x z + a * dt y z := by
  unfold dt
  rw [← sm_mul, ← sm_add]
  exact sm_congr 36 (fun i _ => by grind)
theorem dt_lin2 (x y z : Nat → Rat) (a : Rat) : dt z (fun c => x c + a * y c) = dt z x + a * dt z y := by
  rw [dt_comm, dt_lin, dt_comm x, dt_comm y]
theorem dt_smul (x z : Nat → Rat) (a : Rat) : dt (fun c => a * x c) z = a * dt x z := by
  unfold dt
  rw [← sm_mul]
  exact sm_congr 36 (fun i _ => by grind)
theorem dt_congr {x y x' y' : Nat → Rat} (h : ∀ c, c < 36 → x c = x' c) (h2 : ∀ c, c < 36 → y c = y' c) : dt x y = dt x' y' := sm_congr 36 (fun i hi => by rw [h i hi, h2 i hi])
theorem dt_sq (x y : Nat → Rat) : dt x y * dt x y ≤ dt x x * dt y y := sm_cs 36
theorem dt_nn (x : Nat → Rat) : 0 ≤ dt x x := sm_nn 36 (fun _ _ => sq_nn _)
theorem dt_ab (x y : Nat → Rat) : ab (dt x y) ≤ sm (fun c => ab (x c) * ab (y c)) 36 := by
  refine Rat.le_trans (sm_ab 36) ?_
  exact sm_le 36 (fun _ _ => by rw [ab_mul]; exact Rat.le_refl)
theorem aS_lin (e : Nat → Nat → Rat) (dg x y : Nat → Rat) (a : Rat) (c : Nat) : aS e dg (fun c => x c + a * y c) c = aS e dg x c + a * aS e dg y c := by
  unfold aS
  have : sm (fun j => e c j * (x j + a * y j)) 36 = sm (fun j => e c j * x j) 36 + a * sm (fun j => e c j * y j) 36 := by
    rw [← sm_mul, ← sm_add]
    exact sm_congr 36 (fun i _ => by grind)
  rw [this]
  grind
theorem dt_aS (e : Nat → Nat → Rat) (dg x y : Nat → Rat) : dt x (aS e dg y) = sm (fun c => dg c * (x c * y c)) 36 - sm (fun c => sm (fun j => e c j * (x c * y j)) 36) 36 := by
  unfold dt aS
  rw [← sm_sub]
  refine sm_congr 36 (fun i _ => ?_)
  have : x i * sm (fun j => e i j * y j) 36 = sm (fun j => e i j * (x i * y j)) 36 := by
    rw [← sm_mul]
    exact sm_congr 36 (fun j _ => by grind)
  grind
theorem aS_sym {e : Nat → Nat → Rat} (hs : ∀ a b, e a b = e b a) (dg x y : Nat → Rat) : dt x (aS e dg y) = dt y (aS e dg x) := by
  rw [dt_aS, dt_aS]
  have e1 : sm (fun c => dg c * (x c * y c)) 36 = sm (fun c => dg c * (y c * x c)) 36 := sm_congr 36 (fun i _ => by grind)
  have e2 : sm (fun c => sm (fun j => e c j * (x c * y j)) 36) 36 = sm (fun c => sm (fun j => e c j * (y c * x j)) 36) 36 := by
    rw [sm_swap]
    refine sm_congr 36 (fun i _ => sm_congr 36 (fun j _ => ?_))
    rw [hs j i]
    grind
  rw [e1, e2]
theorem qA_lin {e : Nat → Nat → Rat} (hs : ∀ a b, e a b = e b a) (dg x y : Nat → Rat) (a : Rat) : qA e dg (fun c => x c + a * y c) = qA e dg x + 2 * a * dt x (aS e dg y) + a * a * qA e dg y := by
  unfold qA
  have e1 : dt (fun c => x c + a * y c) (aS e dg (fun c => x c + a * y c)) = dt (fun c => x c + a * y c) (fun c => aS e dg x c + a * aS e dg y c) := dt_congr (fun c _ => rfl) (fun c _ => aS_lin e dg x y a c)
  rw [e1, dt_lin, dt_lin2, dt_lin2, aS_sym hs dg y x]
  grind
theorem qA_smul (e : Nat → Nat → Rat) (dg x : Nat → Rat) (a : Rat) : qA e dg (fun c => a * x c) = a * a * qA e dg x := by
  unfold qA
  have e1 : dt (fun c => a * x c) (aS e dg (fun c => a * x c)) = dt (fun c => a * x c) (fun c => a * aS e dg x c) := dt_congr (fun c _ => rfl) (fun c _ => by
    unfold aS
    have : sm (fun j => e c j * (a * x j)) 36 = a * sm (fun j => e c j * x j) 36 := by
      rw [← sm_mul]
      exact sm_congr 36 (fun i _ => by grind)
    rw [this]
    grind)
  rw [e1, dt_smul, dt_comm, dt_smul, dt_comm]
  grind
/-- the form as a sum of squares -/
theorem qA_sq {e : Nat → Nat → Rat} (hs : ∀ a b, e a b = e b a) (dg x : Nat → Rat) : 2 * qA e dg x = 2 * sm (fun c => (dg c - sm (fun j => e c j) 36) * (x c * x c)) 36 + sm (fun c => sm (fun j => e c j * ((x c - x j) * (x c - x j))) 36) 36 := by
  unfold qA
  rw [dt_aS]
  have e1 : sm (fun c => sm (fun j => e c j * ((x c - x j) * (x c - x j))) 36) 36 = sm (fun c => sm (fun j => e c j) 36 * (x c * x c)) 36 + sm (fun c => sm (fun j => e c j * (x j * x j)) 36) 36 - 2 * sm (fun c => sm (fun j => e c j * (x c * x j)) 36) 36 := by
    rw [← sm_mul, ← sm_add, ← sm_sub]
    refine sm_congr 36 (fun c _ => ?_)
    rw [← sm_mul, Rat.mul_comm (sm _ _), ← sm_mul, ← sm_add, ← sm_sub]
    exact sm_congr 36 (fun j _ => by grind)
  have e2 : sm (fun c => sm (fun j => e c j * (x j * x j)) 36) 36 = sm (fun c => sm (fun j => e c j) 36 * (x c * x c)) 36 := by
    rw [sm_swap]
    refine sm_congr 36 (fun c _ => ?_)
    rw [Rat.mul_comm (sm _ _), ← sm_mul]
    exact sm_congr 36 (fun j _ => by rw [hs j c]; grind)
  have e3 : sm (fun c => (dg c - sm (fun j => e c j) 36) * (x c * x c)) 36 = sm (fun c => dg c * (x c * x c)) 36 - sm (fun c => sm (fun j => e c j) 36 * (x c * x c)) 36 := by
    rw [← sm_sub]
    exact sm_congr 36 (fun c _ => by grind)
  rw [e1, e2, e3]
  grind
theorem qA_nn {e : Nat → Nat → Rat} (hs : ∀ a b, e a b = e b a) (h0 : ∀ a b, 0 ≤ e a b) {dg : Nat → Rat} (hd : ∀ c, c < 36 → sm (fun j => e c j) 36 ≤ dg c) (x : Nat → Rat) : 0 ≤ qA e dg x := by
  have h1 := qA_sq hs dg x
  have h2 : 0 ≤ sm (fun c => (dg c - sm (fun j => e c j) 36) * (x c * x c)) 36 := sm_nn 36 (fun c hc => Rat.mul_nonneg (by have := hd c hc; grind) (sq_nn _))
  have h3 : 0 ≤ sm (fun c => sm (fun j => e c j * ((x c - x j) * (x c - x j))) 36) 36 := sm_nn 36 (fun c _ => sm_nn 36 (fun j _ => Rat.mul_nonneg (h0 c j) (sq_nn _)))
  grind
/-- the energy of r, by its dual: at most B over the vectors of P -/
def EB (e : Nat → Nat → Rat) (dg : Nat → Rat) (P : (Nat → Rat) → Prop) (r : Nat → Rat) (B : Rat) : Prop := ∀ x, P x → 2 * dt x r ≤ qA e dg x + B
/-- P is a space -/
def lsp (P : (Nat → Rat) → Prop) : Prop := (∀ x y a, P x → P y → P (fun c => x c + a * y c)) ∧ ∀ x a, P x → P (fun c => a * x c)
theorem eb_mono {e : Nat → Nat → Rat} {dg : Nat → Rat} {P : (Nat → Rat) → Prop} {r : Nat → Rat} {B B' : Rat} (h : EB e dg P r B) (hB : B ≤ B') : EB e dg P r B' := fun x hx => by
  have := h x hx
  grind
theorem eb_nn {e : Nat → Nat → Rat} {dg : Nat → Rat} {P : (Nat → Rat) → Prop} {r : Nat → Rat} {B : Rat} (hP : lsp P) {y : Nat → Rat} (hy : P y) (h : EB e dg P r B) : 0 ≤ B := by
  have h1 := h _ (hP.2 y 0 hy)
  rw [dt_smul, qA_smul] at h1
  grind
theorem eb_step {e : Nat → Nat → Rat} (hs : ∀ a b, e a b = e b a) {dg : Nat → Rat} {P : (Nat → Rat) → Prop} (hP : lsp P) {r s : Nat → Rat} {B : Rat} (a : Rat) (hps : P s) (h : EB e dg P r B) : EB e dg P (fun c => r c + (-a) * aS e dg s c) (B + a * a * qA e dg s - 2 * a * dt s r) := fun x hx => by
  have h1 := h _ (hP.1 x s a hx hps)
  rw [dt_lin, qA_lin hs] at h1
  rw [dt_lin2]
  grind
theorem eb_cs {e : Nat → Nat → Rat} {dg : Nat → Rat} {P : (Nat → Rat) → Prop} (hP : lsp P) {r s : Nat → Rat} {B : Rat} (hps : P s) (hQ : 0 ≤ qA e dg s) (h : EB e dg P r B) : dt s r * dt s r ≤ qA e dg s * B := by
  have key : ∀ t : Rat, 2 * (t * dt s r) ≤ t * t * qA e dg s + B := fun t => by
    have h1 := h _ (hP.2 s t hps)
    rw [dt_smul, qA_smul] at h1
    exact h1
  generalize dt s r = d at *
  generalize qA e dg s = Q at *
  have hB : 0 ≤ B := by have := key 0; grind
  rcases (Rat.le_iff_lt_or_eq.mp hQ) with hQ | hQ
  · have h1 := key (d / Q)
    have h2 := Rat.mul_le_mul_of_nonneg_left h1 (Rat.le_of_lt hQ)
    have e1 : Q * (2 * (d / Q * d)) = 2 * (d * d) := by grind
    have e2 : Q * (d / Q * (d / Q) * Q + B) = d * d + Q * B := by grind
    rw [e1, e2] at h2
    grind
  · subst hQ
    have : d * d ≤ 0 := by
      refine Rat.not_lt.mp (fun z => ?_)
      have h1 := key ((B + 1) * d)
      have h2 : (B + 1) * (d * d) ≤ B / 2 := by grind
      have hd : d ≠ 0 := by intro z; subst z; grind
      have h1 := key ((B + 1) / d)
      have e1 : (B + 1) / d * d = B + 1 := by grind
      rw [e1] at h1
      grind
    grind
theorem eb_pert {e : Nat → Nat → Rat} {dg : Nat → Rat} {P : (Nat → Rat) → Prop} (hP : lsp P) {r f : Nat → Rat} {B th et : Rat} (ht : 0 ≤ th) (h : EB e dg P r B) (hf : ∀ x, P x → 2 * dt x f ≤ th * qA e dg x + et) : EB e dg P (fun c => r c + 1 * f c) ((1 + th) * (B + et)) := fun x hx => by
  have h3 : 0 < 1 + th := by grind
  have hx' := hP.2 x (1 / (1 + th)) hx
  have h1 := h _ hx'
  have h2 := hf _ hx'
  rw [dt_smul, qA_smul] at h1 h2
  rw [dt_lin2]
  generalize dt x r = d1 at *
  generalize dt x f = d2 at *
  generalize qA e dg x = Q at *
  have h4 := Rat.mul_le_mul_of_nonneg_left (c := 1 + th) (show 2 * (1 / (1 + th) * d1) + 2 * (1 / (1 + th) * d2) ≤ (1 / (1 + th) * (1 / (1 + th)) * Q + B) + (th * (1 / (1 + th) * (1 / (1 + th)) * Q) + et) by grind) (Rat.le_of_lt h3)
  have e1 : (1 + th) * (2 * (1 / (1 + th) * d1) + 2 * (1 / (1 + th) * d2)) = 2 * (d1 + 1 * d2) := by grind
  have e2 : (1 + th) * (1 / (1 + th) * (1 / (1 + th)) * Q + B + (th * (1 / (1 + th) * (1 / (1 + th)) * Q) + et)) = Q + (1 + th) * (B + et) := by grind
  rw [e1, e2] at h4
  exact h4
