/-! walks -/
/-! walks over the cells, and the bound of a vector by its form -/
noncomputable def ind (p : Prop) : Rat := @ite Rat p (Classical.propDecidable p) 1 0
theorem ind_t {p : Prop} (h : p) : ind p = 1 := by unfold ind; rw [if_pos h]
theorem ind_f {p : Prop} (h : ¬ p) : ind p = 0 := by unfold ind; rw [if_neg h]
theorem ind_nn (p : Prop) : 0 ≤ ind p := by
  rcases Classical.em p with h | h
  · rw [ind_t h]; decide
  · rw [ind_f h]; exact Rat.le_refl
theorem ind_le {p q : Prop} (h : p → q) : ind p ≤ ind q := by
  rcases Classical.em p with h1 | h1
  · rw [ind_t h1, ind_t (h h1)]; exact Rat.le_refl
  · rw [ind_f h1]; exact ind_nn q
theorem ind_1 {p : Nat → Prop} (h : ∀ i j, p i → p j → i = j) : ∀ K, sm (fun i => ind (p i)) K ≤ 1
  | 0 => by rw [sm]; decide
  | K + 1 => by
    rw [sm]
    rcases Classical.em (p K) with hp | hp
    · rw [ind_t hp, sm_0 K (fun i hi => ind_f (fun z => by have := h i K z hp; omega))]
      exact (by grind : (0:Rat) + 1 ≤ 1)
    · rw [ind_f hp]
      have := ind_1 h K
      grind
/-- c is reached from a in k turns -/
def rch (e : Nat → Nat → Rat) (a : Nat) : Nat → Nat → Prop
  | 0, c => c = a
  | k + 1, c => rch e a k c ∨ ∃ j, j < 36 ∧ e c j = 1 ∧ rch e a k j
def conn (e : Nat → Nat → Rat) (a c : Nat) : Prop := ∃ k, rch e a k c
def lvl (e : Nat → Nat → Rat) (a k c : Nat) : Prop := rch e a k c ∧ ∀ i, i < k → ¬ rch e a i c
theorem rch_up {e : Nat → Nat → Rat} {a k c : Nat} (h : rch e a k c) : ∀ m, rch e a (k + m) c
  | 0 => h
  | m + 1 => Or.inl (rch_up h m)
theorem rch_mono {e : Nat → Nat → Rat} {a k m c : Nat} (h : rch e a k c) (hm : k ≤ m) : rch e a m c := by
  have := rch_up h (m - k)
  rw [show k + (m - k) = m by omega] at this
  exact this
theorem lvl_of {e : Nat → Nat → Rat} {a c : Nat} : ∀ k, rch e a k c → ∃ i, lvl e a i c
  | 0, h => ⟨0, h, fun i hi => by omega⟩
  | k + 1, h => by
    rcases Classical.em (rch e a k c) with h1 | h1
    · exact lvl_of k h1
    · exact ⟨k + 1, h, fun i hi z => h1 (rch_mono z (by omega))⟩
theorem lvl_un {e : Nat → Nat → Rat} {a c i j : Nat} (h1 : lvl e a i c) (h2 : lvl e a j c) : i = j := by
  rcases Nat.lt_trichotomy i j with h | h | h
  · exact absurd h1.1 (h2.2 i h)
  · exact h
  · exact absurd h2.1 (h1.2 j h)
theorem lvl_dn {e : Nat → Nat → Rat} {a k c : Nat} (h : lvl e a (k + 1) c) : ∃ j, j < 36 ∧ e c j = 1 ∧ lvl e a k j := by
  rcases h.1 with h1 | ⟨j, hj, h2, h3⟩
  · exact absurd h1 (h.2 k (by omega))
  · exact ⟨j, hj, h2, h3, fun i hi z => h.2 (i + 1) (by omega) (Or.inr ⟨j, hj, h2, z⟩)⟩
noncomputable def bE (e : Nat → Nat → Rat) (a : Nat) (x : Nat → Rat) (i : Nat) : Rat := sm (fun v => sm (fun w => ind (lvl e a (i + 1) v ∧ lvl e a i w) * (e v w * ((x v - x w) * (x v - x w)))) 36) 36
theorem tm_nn {e : Nat → Nat → Rat} (h0 : ∀ a b, 0 ≤ e a b) (p : Prop) (v w : Nat) (x : Nat → Rat) : 0 ≤ ind p * (e v w * ((x v - x w) * (x v - x w))) := Rat.mul_nonneg (ind_nn p) (Rat.mul_nonneg (h0 v w) (sq_nn _))
theorem bE_nn {e : Nat → Nat → Rat} (h0 : ∀ a b, 0 ≤ e a b) (a : Nat) (x : Nat → Rat) (i : Nat) : 0 ≤ bE e a x i := sm_nn 36 (fun v _ => sm_nn 36 (fun w _ => tm_nn h0 _ v w x))
theorem walk {e : Nat → Nat → Rat} (h0 : ∀ a b, 0 ≤ e a b) (a : Nat) (x : Nat → Rat) : ∀ k c, c < 36 → lvl e a k c → (x c - x a) * (x c - x a) ≤ (k : Rat) * sm (bE e a x) k
  | 0, c, _, h => by
    have : c = a := h.1
    subst this
    rw [sm]
    show _ ≤ (0 : Rat) * 0
    grind
  | k + 1, c, hc, h => by
    obtain ⟨j, hj, h1, h2⟩ := lvl_dn h
    have ih := walk h0 a x k j hj h2
    have hS := sm_nn (f := bE e a x) k (fun i _ => bE_nn h0 a x i)
    have hB : (x c - x j) * (x c - x j) ≤ bE e a x k := by
      unfold bE
      have t1 := sm_one (f := fun w => ind (lvl e a (k + 1) c ∧ lvl e a k w) * (e c w * ((x c - x w) * (x c - x w)))) 36 j hj (fun w _ => tm_nn h0 _ c w x)
      have t2 := sm_one (f := fun v => sm (fun w => ind (lvl e a (k + 1) v ∧ lvl e a k w) * (e v w * ((x v - x w) * (x v - x w)))) 36) 36 c hc (fun v _ => sm_nn 36 (fun w _ => tm_nn h0 _ v w x))
      have t1 : ind (lvl e a (k + 1) c ∧ lvl e a k j) * (e c j * ((x c - x j) * (x c - x j))) ≤ _ := t1
      rw [ind_t ⟨h, h2⟩, h1] at t1
      grind
    rw [sm, Rat.natCast_add]
    show _ ≤ ((k : Rat) + 1) * _
    generalize sm (bE e a x) k = S at *
    generalize bE e a x k = b at *
    have e1 : x c - x a = (x c - x j) + (x j - x a) := by grind
    rw [e1]
    generalize x c - x j = g at *
    generalize x j - x a = y at *
    have hk : (0 : Rat) ≤ k := Rat.natCast_nonneg
    rcases Rat.le_iff_lt_or_eq.mp hk with hk | hk
    · have k1 := sq_nn ((k : Rat) * g - y)
      have k2 := Rat.mul_le_mul_of_nonneg_left hB (show (0 : Rat) ≤ (k : Rat) * ((k : Rat) + 1) from Rat.mul_nonneg (Rat.le_of_lt hk) (by grind))
      have k3 := Rat.mul_le_mul_of_nonneg_left ih (show (0 : Rat) ≤ (k : Rat) + 1 by grind)
      refine Rat.le_of_mul_le_mul_left (c := (k : Rat)) ?_ hk
      grind
    · rw [← hk] at ih ⊢
      have : y * y ≤ 0 := by grind
      have y0 : y = 0 := by
        rcases Rat.mul_eq_zero.mp (show y * y = 0 from by have := sq_nn y; grind) with z | z <;> exact z
      subst y0
      grind
theorem bE_sum {e : Nat → Nat → Rat} (hs : ∀ a b, e a b = e b a) (h0 : ∀ a b, 0 ≤ e a b) (a : Nat) (x : Nat → Rat) (k : Nat) : 2 * sm (bE e a x) k ≤ sm (fun v => sm (fun w => e v w * ((x v - x w) * (x v - x w))) 36) 36 := by
  have e1 : sm (bE e a x) k = sm (fun v => sm (fun w => sm (fun i => ind (lvl e a (i + 1) v ∧ lvl e a i w)) k * (e v w * ((x v - x w) * (x v - x w)))) 36) 36 := by
    unfold bE
    rw [sm_swap (fun i v => sm (fun w => ind (lvl e a (i + 1) v ∧ lvl e a i w) * (e v w * ((x v - x w) * (x v - x w)))) 36)]
    refine sm_congr 36 (fun v _ => ?_)
    rw [sm_swap (fun i w => ind (lvl e a (i + 1) v ∧ lvl e a i w) * (e v w * ((x v - x w) * (x v - x w))))]
    refine sm_congr 36 (fun w _ => ?_)
    rw [Rat.mul_comm (sm _ _), ← sm_mul]
    exact sm_congr k (fun i _ => Rat.mul_comm _ _)
  have e2 : sm (bE e a x) k = sm (fun v => sm (fun w => sm (fun i => ind (lvl e a (i + 1) w ∧ lvl e a i v)) k * (e v w * ((x v - x w) * (x v - x w)))) 36) 36 := by
    rw [e1, sm_swap]
    refine sm_congr 36 (fun v _ => sm_congr 36 (fun w _ => ?_))
    rw [hs w v]
    grind
  have e3 : 2 * sm (bE e a x) k = sm (bE e a x) k + sm (bE e a x) k := by grind
  rw [e3]
  conv => lhs; lhs; rw [e1]
  conv => lhs; rhs; rw [e2]
  rw [← sm_add]
  refine sm_le 36 (fun v _ => ?_)
  rw [← sm_add]
  refine sm_le 36 (fun w _ => ?_)
  have hn := Rat.mul_nonneg (h0 v w) (sq_nn (x v - x w))
  have hone : sm (fun i => ind (lvl e a (i + 1) v ∧ lvl e a i w)) k + sm (fun i => ind (lvl e a (i + 1) w ∧ lvl e a i v)) k ≤ 1 := by
    rcases Classical.em (∃ i, lvl e a (i + 1) v ∧ lvl e a i w) with ⟨i, h1, h2⟩ | hno
    · rw [sm_0 (f := fun i => ind (lvl e a (i + 1) w ∧ lvl e a i v)) k (fun j _ => ind_f (fun z => by
        have q1 := lvl_un z.1 h2
        have q2 := lvl_un z.2 h1
        omega))]
      have := ind_1 (p := fun i => lvl e a (i + 1) v ∧ lvl e a i w) (fun i j hi hj => lvl_un hi.2 hj.2) k
      grind
    · rw [sm_0 (f := fun i => ind (lvl e a (i + 1) v ∧ lvl e a i w)) k (fun j _ => ind_f (fun z => hno ⟨j, z⟩))]
      have := ind_1 (p := fun i => lvl e a (i + 1) w ∧ lvl e a i v) (fun i j hi hj => lvl_un hi.2 hj.2) k
      grind
  have := Rat.mul_le_mul_of_nonneg_right hone hn
  grind
/-- no walk without turning back is longer than there are cells -/
theorem lvl_cnt {e : Nat → Nat → Rat} {a : Nat} (ha : a < 36) : ∀ k c, c < 36 → lvl e a k c → ((k : Rat) + 1) ≤ sm (fun v => ind (rch e a k v)) 36
  | 0, c, hc, h => by
    have := sm_one (f := fun v => ind (rch e a 0 v)) 36 a ha (fun i _ => ind_nn _)
    have t : ind (rch e a 0 a) ≤ _ := this
    rw [ind_t (show rch e a 0 a from rfl)] at t
    show (0 : Rat) + 1 ≤ _
    grind
  | k + 1, c, hc, h => by
    obtain ⟨j, hj, h1, h2⟩ := lvl_dn h
    have ih := lvl_cnt ha k j hj h2
    have t := sm_one (f := fun v => ind (rch e a (k + 1) v) - ind (rch e a k v)) 36 c hc (fun i _ => by
      have := ind_le (p := rch e a k i) (q := rch e a (k + 1) i) Or.inl
      grind)
    rw [sm_sub] at t
    have t : ind (rch e a (k + 1) c) - ind (rch e a k c) ≤ _ := t
    rw [ind_t h.1, ind_f (h.2 k (by omega))] at t
    rw [Rat.natCast_add]
    show (k : Rat) + 1 + 1 ≤ _
    grind
