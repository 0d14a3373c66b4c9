/-! step, tied: whole; all that is owed is that no number of the reference's step is a NaN -/
theorem step_tie {S : cS} {T : mS} {np nq R : Nat} {t : UInt64} (h : Tie S T np nq) (h40 : R ≤ 40) (ht : mgd 1056 t) (ok : stOk T np R t) : (okC t = true → spOk S np R t ∧ spOk2 (fpF (spA S np t) (cG S 1) R) ∧ cI (fpF (spA S np t) (cG S 1) R).2 1 = nI np ∧ ((fpF (spA S np t) (cG S 1) R).1 ≠ -1 → pmOk (spV (spU (fpF (spA S np t) (cG S 1) R).2)) np t)) ∧ cOk (qStepF S np R t) (.int (rStep T np R t).1) (rStep T np R t).2 np nq := by
  have eok := ok_TC ht
  unfold qStepF rStep
  rw [eok]
  unfold stOk at ok
  rw [eok] at ok
  cases hok : okC t with
  | false =>
    rw [if_neg (by decide), if_neg (by decide)]
    have c : cOk (1, [], S) (.int (nI 0)) (mI' (mI' T 0 (nI 0)) 0 (nI 1)) np nq := ⟨rfl, Nat.le_of_ble_eq_true rfl, fun (z : 1 = 0) => absurd z (by decide), fun _ => rfl, tie_S00 h _ _⟩
    exact ⟨fun z => absurd z (by decide), c⟩
  | true =>
    rw [if_pos rfl, if_pos rfl]
    obtain ⟨o1, o2⟩ := ok hok
    obtain ⟨-, g0, sp, r1, r2, r3, r4⟩ := pre_tie h o1
    have hres := sv_res1 (stX T np t) R h40
    have h16 : ∀ c, c < 36 → vf_n64 (mD (svF (stX T np t) R).2 16 c) := sv_p1 (fun c hc => by
      have e : mD (stX T np t) 16 c = FP.dconst0 := m16 _ hc
      rw [e]
      exact n_d0) o1.2.2.2
    generalize fpF (spA S np t) (cG S 1) R = Fp at r1 r2 r3 ⊢
    generalize svF (stX T np t) R = Gp at o2 r1 r2 r4 hres h16 ⊢
    obtain ⟨n, V⟩ := Fp
    obtain ⟨n', W⟩ := Gp
    have r1 : n = n' := r1
    subst r1
    have hcI : cI V 1 = nI np := by
      obtain ⟨c1, -⟩ := c_frame r3
      show V.1 1 = nI np
      have c1 : V.1 = S.1 := c1
      rw [c1]
      exact h.now.c1
    rcases hres with hn | ⟨k, hk, hn⟩
    · have hn : n = -1 := hn
      have hlt : ¬ (0 : Int32) ≤ n := by rw [hn]; decide
      refine ⟨fun _ => ⟨sp, fun z => absurd hn z, hcI, fun z => absurd hn z⟩, ?_⟩
      rw [if_neg hlt]
      unfold qStp
      rw [if_pos hn]
      exact ⟨rfl, Nat.le_of_ble_eq_true rfl, fun (z : 2 = 0) => absurd z (by decide), fun _ => rfl, tie_N h r3 r4⟩
    · have hn : n = nI k := hn
      have hge : (0 : Int32) ≤ n := by
        rw [hn, Int32.le_iff_toInt_le, nI_toInt (by omega)]
        show (0 : Int32).toInt ≤ (k : Int)
        rw [show (0 : Int32).toInt = 0 from rfl]
        omega
      have hne : n ≠ -1 := fun z => absurd hge (by rw [z]; decide)
      obtain ⟨t1, t2, t3⟩ := tie_Z h r3 r4 r2 g0 o1 (o2 hge) h16
      refine ⟨fun _ => ⟨sp, fun _ => t2, hcI, fun _ => t3⟩, ?_⟩
      rw [if_pos hge]
      unfold qStp
      rw [if_neg hne]
      have e0 : mI (stZ W np t) 0 = nI 0 := by
        show W.1 0 = nI 0
        have m1 : W.1 = mu T.1 0 (nI 0) := (m_frame r4).1
        rw [m1]
        rfl
      exact ⟨e0, Nat.le_of_ble_eq_true rfl, fun _ => rfl, fun z => absurd rfl z, t1⟩
/-- what is still owed: no NaN in a step of the reference, from any world that can be reached -/
def noNaN : Prop := ∀ (S : cS) (T : mS) (np nq R : Nat) (t : UInt64), Tie S T np nq → mA T 7 0 = nI R → R ≤ 40 → mgd 1056 t → stOk T np R t
theorem step_of (h : noNaN) : stepT := fun S T np nq R t hT hR h40 ht => by
  have ok := h S T np nq R t hT (hT.now.e4.symm.trans hR) h40 ht
  obtain ⟨a, b⟩ := step_tie hT h40 ht ok
  exact ⟨a, ok, b⟩
