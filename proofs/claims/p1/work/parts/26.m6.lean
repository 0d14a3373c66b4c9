/-! the reference: gather, near, rests, product, times -/
section M6
variable {l : Launch} {D : va_G} {ad : Nat → Nat} {cy : Nat → ClassId}
set_option maxRecDepth 100000 in
theorem m_gather (S : mS) (np : Nat) (hnp : mA S 2 0 = nI np) (h24 : np ≤ 24) (hok : ∀ f, f < 84 → gOkF (ptX (mF S 3)) (ptY (mF S 3)) (fcA (mF S 3) f) (fcX f) (fcY f) np) : xMet l yX5_gather cX5_gather 14 none 1 D ad cy [.ref 0] (mW S) (fun vs aw' => vs = [] ∧ aw' = mW (mD' S 12 (filR (gatG (mF S 3) np) (mD S 12) 84))) := by
  refine xmet (Fd := xlk xfl5) (Cn := xlk xcl5) (Cl := xCt [(243, s_hat)]) (by decide) xk_X5_gather xt_X5_gather ⟨_, _, rfl, rfl⟩ xpl5 (xEnt_ok (List.forall_mem_cons.mpr ⟨e_hat (by omega), fun q h => by cases h⟩)) (Nat.le_of_ble_eq_true rfl) (fun WC hW => ?_)
  have loop : ∀ (n f : Nat), f + n = 84 → WC (xL_X5_gather.drop 2) [some (.ref 0), some (.int (nI f)), none, none, none, none, none, none, none, none, none, none, none, none] [] (mW (mD' S 12 (filR (gatG (mF S 3) np) (mD S 12) f))) := by
    intro n
    induction n with
    | zero =>
      intro f hf
      have : f = 84 := by omega
      subst this
      refine hW.1 (fun pc => Nat.beq pc 2) 200 2 _ _ _ ?_
      exact And.intro (fun h1 => And.intro rfl rfl) (fun h1 => absurd (Int32.le_refl _) h1)
    | succ n ih =>
      intro f hf
      have ih' := ih (f + 1) (by omega)
      have e1 : nI f + nI 1 = nI (f + 1) := nI_add f 1
      rw [← e1, filR_s] at ih'
      obtain ⟨hk, hF⟩ := hok f (by omega)
      generalize hX : ptX (mF S 3) = X at hk hF
      generalize hY : ptY (mF S 3) = Y at hk hF
      generalize hA : fcA (mF S 3) f = A at hk hF
      generalize hfi : fcX f = fi at hk hF
      generalize hfj : fcY f = fj at hk hF
      have hG : gatG (mF S 3) np f = gF X Y A fi fj np := by unfold gatG; rw [hX, hY, hA, hfi, hfj]
      have inner : ∀ (u : Int32), (f < 42 → u = nI 1) → (¬ f < 42 → u = nI 0) → ∀ (n k : Nat), k + n = np → WC (xL_X5_gather.drop 50) [some (.ref 0), some (.int (nI f)), some (.int u), some (.double fi), none, some (.double fj), none, some (.double (gN X Y A fi fj k)), none, some (.double (gM X Y fi fj k)), none, some (.int (nI k)), none, none] [] (mW (mD' S 12 (filR (gatG (mF S 3) np) (mD S 12) f))) := by
        intro u hu1 hu0 n
        induction n with
        | zero =>
          intro k hk0
          have : k = np := by omega
          subst this
          refine hW.1 (fun pc => Nat.beq pc 2) 200 50 _ _ _ ?_
          refine ⟨0, rfl, by decide, by decide, ?_⟩
          refine And.intro (fun h1 => ?_) (fun h1 => absurd ?_ h1)
          rotate_left
          · show mA S 2 0 ≤ nI k
            rw [hnp]
            exact Int32.le_refl _
          refine And.intro (fun h2 => ?_) (fun h2 => ?_)
          · refine ⟨f, rfl, by omega, by decide, ?_⟩
            have e2 : gatG (mF S 3) k f = FP.dconst0 := by rw [hG]; unfold gF; rw [if_pos h2]
            rw [e2] at ih'
            refine hW.2 2 _ _ _ _ ?_ ?_ ih'
            · exact And.intro rfl (And.intro rfl trivial)
            · rfl
          · have e2 : gF X Y A fi fj k = FP.ddiv (gN X Y A fi fj k) (gM X Y fi fj k) := by unfold gF; rw [if_neg h2]
            have e3 := hG.trans e2
            rw [e2] at hF
            refine And.intro hF ?_
            refine ⟨f, rfl, by omega, by decide, ?_⟩
            rw [e3] at ih'
            refine hW.2 2 _ _ _ _ ?_ ?_ ih'
            · exact And.intro rfl (And.intro rfl trivial)
            · rfl
        | succ n ihn =>
          intro k hk0
          obtain ⟨o1, o2, o3, o4, o5, o6, o7, o8, o9, o10, o11⟩ := hk k (by omega)
          have kx : mF S 3 (4 * k) = X k := by rw [← hX]
          have ky : mF S 3 (4 * k + 1) = Y k := by rw [← hY]
          have ihn' := ihn (k + 1) (by omega)
          have e2 : nI k + nI 1 = nI (k + 1) := nI_add k 1
          rw [← e2] at ihn'
          refine hW.1 (fun pc => Nat.beq pc 80) 200 50 _ _ _ ?_
          refine ⟨0, rfl, by decide, by decide, ?_⟩
          refine And.intro (fun h1 => absurd (show nI np ≤ nI k by rw [← hnp]; exact h1) (nI_ge (by omega) (by omega))) (fun h1 => ?_)
          refine ⟨4 * k, pk_mul 4 k, by omega, by decide, ?_⟩
          show vf_n64 (FP.f2d (mF S 3 (4 * k))) ∧ _
          rw [kx]
          refine And.intro o1 ?_
          refine And.intro o2 ?_
          refine And.intro o3 ?_
          refine ⟨4 * k + 1, by rw [pk_mul, nI_add], by omega, by decide, ?_⟩
          show vf_n64 (FP.f2d (mF S 3 (4 * k + 1))) ∧ _
          rw [ky]
          refine And.intro o4 ?_
          refine And.intro o5 ?_
          refine And.intro o6 ?_
          refine And.intro o7 ?_
          refine And.intro (fun h2 => ?_) (fun h2 => ?_)
          · have hf2 : ¬ f < 42 := fun z => by rw [hu1 z] at h2; exact absurd h2 (by decide)
            have ka : mF S 3 (4 * k + 3) = A k := by rw [← hA]; unfold fcA; rw [if_neg hf2]
            refine ⟨4 * k + 3, by rw [pk_mul, nI_add], by omega, by decide, ?_⟩
            show vf_n64 (FP.f2d (mF S 3 (4 * k + 3))) ∧ _
            rw [ka]
            refine And.intro o8 ?_
            refine And.intro o9 ?_
            refine And.intro o10 ?_
            refine And.intro o11 ?_
            refine hW.2 50 _ _ _ _ ?_ ?_ ihn'
            · exact And.intro rfl (And.intro rfl (And.intro rfl (And.intro rfl (And.intro rfl (And.intro rfl (And.intro rfl (And.intro rfl trivial)))))))
            · rfl
          · have hf2 : f < 42 := Decidable.byContradiction fun z => by rw [hu0 z] at h2; exact absurd (by decide) h2
            have ka : mF S 3 (4 * k + 2) = A k := by rw [← hA]; unfold fcA; rw [if_pos hf2]
            refine ⟨4 * k + 2, by rw [pk_mul, nI_add], by omega, by decide, ?_⟩
            show vf_n64 (FP.f2d (mF S 3 (4 * k + 2))) ∧ _
            rw [ka]
            refine And.intro o8 ?_
            refine And.intro o9 ?_
            refine And.intro o10 ?_
            refine And.intro o11 ?_
            refine hW.2 50 _ _ _ _ ?_ ?_ ihn'
            · exact And.intro rfl (And.intro rfl (And.intro rfl (And.intro rfl (And.intro rfl (And.intro rfl (And.intro rfl (And.intro rfl trivial)))))))
            · rfl
      have fcn := fc_n ⟨f, by omega⟩
      have fcn : vf_n64 (fcX f) ∧ vf_n64 (fcY f) := fcn
      refine hW.1 (fun pc => Nat.beq pc 2 || Nat.beq pc 80) 200 2 _ _ _ ?_
      refine And.intro (fun h1 => absurd h1 (nI_ge (b := 84) (by omega) (by decide))) (fun h1 => ?_)
      refine And.intro (fun h2 => ?_) (fun h2 => ?_)
      · have hf2 : ¬ f < 42 := fun z => nI_ge z (by decide) h2
        have ea : nI f - nI 42 = nI (f - 42) := pk_sub (by omega)
        have r1 : nI f - nI 42 - (nI f - nI 42) / nI 6 * nI 6 = nI ((f - 42) % 6) := by rw [ea]; exact pk_rem (by omega) (by decide) (by decide)
        have r2 : (nI f - nI 42) / nI 6 = nI ((f - 42) / 6) := by rw [ea]; exact pk_div (by omega) (by decide) (by decide)
        have x1 : fi = FP.dadd (FP.i2d (nI f - nI 42 - (nI f - nI 42) / nI 6 * nI 6)) 4602678819172646912 := by rw [← hfi, r1]; unfold fcX; rw [if_neg hf2]
        have x2 : fj = FP.i2d ((nI f - nI 42) / nI 6) := by rw [← hfj, r2]; unfold fcY; rw [if_neg hf2]
        refine And.intro (fun _ => ?_) (fun h => absurd (by decide) h)
        refine And.intro (by decide) ?_
        refine And.intro (by rw [← x1, ← hfi]; exact fcn.1) ?_
        refine And.intro (fun _ => ?_) (fun h => absurd (by decide) h)
        refine And.intro (by decide) ?_
        have h9 := inner (nI 0) (fun z => absurd z hf2) (fun _ => rfl) np 0 (by omega)
        rw [x1, x2] at h9
        exact h9
      · have hf2 : f < 42 := Nat.lt_of_not_le fun z => h2 (nI_le z (by omega))
        have r1 : nI f - nI f / nI 7 * nI 7 = nI (f % 7) := pk_rem (by omega) (by decide) (by decide)
        have r2 : nI f / nI 7 = nI (f / 7) := pk_div (by omega) (by decide) (by decide)
        have x1 : fi = FP.i2d (nI f - nI f / nI 7 * nI 7) := by rw [← hfi, r1]; unfold fcX; rw [if_pos hf2]
        have x2 : fj = FP.dadd (FP.i2d (nI f / nI 7)) 4602678819172646912 := by rw [← hfj, r2]; unfold fcY; rw [if_pos hf2]
        refine And.intro (fun h => absurd h (by decide)) (fun _ => ?_)
        refine And.intro (by decide) ?_
        refine And.intro (fun h => absurd h (by decide)) (fun _ => ?_)
        refine And.intro (by decide) ?_
        refine And.intro (by rw [← x2, ← hfj]; exact fcn.2) ?_
        have h9 := inner (nI 1) (fun _ => rfl) (fun z => absurd hf2 z) np 0 (by omega)
        rw [x1, x2] at h9
        exact h9
  have h9 := loop 84 0 (by omega)
  rw [filR_0] at h9
  exact hW.1 (fun pc => Nat.beq pc 2) 200 0 _ _ _ h9
def s_gather (st : List Value) (aw : xA) (k : List Value → xA → Prop) : Prop := match st with
  | .ref 0 :: st => match xsm st with
    | true => ∃ (S : mS) (np : Nat), aw = mW S ∧ mA S 2 0 = nI np ∧ np ≤ 24 ∧ (∀ f, f < 84 → gOkF (ptX (mF S 3)) (ptY (mF S 3)) (fcA (mF S 3) f) (fcX f) (fcY f) np) ∧ k st (mW (mD' S 12 (filR (gatG (mF S 3) np) (mD S 12) 84)))
    | false => False
  | _ => False
theorem e_gather {d : Nat} (hd : 2 ≤ d) : xEnt l d D ad cy RX5 344 s_gather := xEnt_V (y' := yX5_gather) (cc' := cX5_gather) (n' := 14) (ret' := none) (d' := 1) (j := 172) 0 (by decide +kernel) (by decide +kernel) (by omega) (fun st aw k h => by
  match st, h with
  | .ref 0 :: st, h =>
    cases hs : xsm st with
    | false => simp only [s_gather, hs] at h
    | true =>
      simp only [s_gather, hs] at h
      obtain ⟨S, np, rfl, hnp, h24, hok, h2⟩ := h
      exact ⟨[], st, _, 0, 5, _, rfl, rfl, hs, rfl, ⟨_, rfl, rfl⟩, m_gather S np hnp h24 hok, fun vs aw' h9 => by obtain ⟨rfl, rfl⟩ := h9; exact h2⟩)
end M6
