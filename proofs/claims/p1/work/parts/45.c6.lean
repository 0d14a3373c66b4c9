/-! calls of the machine's own: arraycopy of whole rows, Math.min -/
section C6
variable {p : Program} {l : Launch} {e : Env} {s : State} {m : MethodId} {args : Array Value} {below : List Frame} {meth : Method} {c : Code} {Q : State → Prop} {A : Nat → Prop} {D : va_G} {ad : Nat → Nat} {cy : Nat → ClassId}
def t_copyD (st : List Value) (aw : xA) (k : List Value → xA → Prop) : Prop := match st with
  | .int n :: .int dp :: .ref a :: .int sp :: .ref b :: st => match xsm st with
    | true => match xaD (xn aw b) with
      | some (n0, f) => match xaD (xn aw a) with
        | some (n1, g) => ∃ z : Nat, sp = nI 0 ∧ dp = nI 0 ∧ n = nI z ∧ z ≤ n0 ∧ z ≤ n1 ∧ z < 2 ^ 31 ∧ k st (xu aw a (.inl (0, n1, .inr (.inr (.inr (.inl (va_cpy f g 0 0 z)))))))
        | _ => False
      | _ => False
    | false => False
  | _ => False
set_option maxRecDepth 100000 in
set_option maxHeartbeats 4000000 in
theorem f_copyD {d j : Nat} {own : String} (hws : ∀ w ∈ ([.methodLink own j arraycopyName, .native arraycopyName, .static arraycopyName, .initialized "java/lang/System"] : List Cond), w ∈ xG) (hd : 1 ≤ d) : xEnt l d D ad cy own (2 * j + 1) t_copyD := by
  intro cc L Fd Cn p e s m args below meth c Q A hA F n q hq hi lv st aw k hk kk
  rcases hi with ⟨j2, h1, h2⟩ | ⟨j2, h1, h2⟩
  · omega
  have : j2 = j := by omega
  subst this
  match st, hk with
  | .int nn :: .int dp :: .ref a :: .int sp :: .ref b :: st, hk =>
    cases hs : xsm st with
    | false => simp only [t_copyD, hs] at hk
    | true =>
      cases hb0 : xaD (xn aw b) with
      | none => simp only [t_copyD, hs, hb0] at hk
      | some z0 =>
        obtain ⟨n0, f⟩ := z0
        cases ha0 : xaD (xn aw a) with
        | none => simp only [t_copyD, hs, hb0, ha0] at hk
        | some z1 =>
          obtain ⟨n1, g⟩ := z1
          simp only [t_copyD, hs, hb0, ha0] at hk
          obtain ⟨z, rfl, rfl, rfl, hz0, hz1, hz, hk⟩ := hk
          have hwb := xaD_eq hb0
          have hwa := xaD_eq ha0
          obtain ⟨hx, hb, hts, hown, hK, hE, hT, -, -, -, -⟩ := id F
          have hdq := xdec hE hq
          have hN := xlenq hT hq
          cases hdr : L.drop n with
          | nil =>
            have h1 : (L.drop n).head? = some q := by rw [List.head?_drop]; exact hq
            rw [hdr] at h1
            cases h1
          | cons q' r' =>
            have h3 := (xdrop hdr).1
            rw [hq] at h3
            cases h3
            intro hml H locs ls hP hD hS hl
            obtain ⟨pc, i9, len, t9⟩ := q
            have h1 : i9 = .invokestatic j2 := h1
            subst h1
            have hlen : len = 3 := of_decide_eq_true hN
            subst hlen
            have c0 : (nI 0).toNatClampNeg = 0 := nI_clamp (by decide)
            have cz : (nI z).toNatClampNeg = z := nI_clamp hz
            refine va_copyd (rest := st.map (xv ad)) hx hb (by rw [hl.1]; exact hml.symm) hown (hts _ (hws _ (by simp))) (hts _ (hws _ (by simp))) (hts _ (hws _ (by simp))) (hts _ (hws _ (by simp))) hK hP hD hS b a 0 0 (xw_get hwb) (xw_get hwa) rfl rfl rfl (sp := nI 0) (dp := nI 0) (n := nI z) (by decide) (by decide) (nI_pos hz) (by rw [c0, cz]; omega) (by rw [c0, cz]; omega) (fun _ _ => rfl) hd (by
              have h9 := xsm_ok (ad := ad) hs
              have h8 : nativeFrameWords "java/lang/System" "arraycopy" 5 = 7 := by decide
              show _ ≤ 40 * d
              rw [h8]
              omega) hdq (fun H1 locs1 hP1 hD1 hS1 => ?_)
            rw [c0, cz] at hP1 hD1
            have e1 : (xw ad cy aw).set a (ad a, .inl (cy 0, n1, .inr (.inr (.inr (.inl (va_cpy f g 0 0 z)))))) = xw ad cy (xu aw a (.inl (0, n1, .inr (.inr (.inr (.inl (va_cpy f g 0 0 z))))))) := xw_set (e := .inl (0, n1, .inr (.inr (.inr (.inl (va_cpy f g 0 0 z))))))
            rw [e1] at hP1 hD1
            have h2 := kk _ _ hk
            cases hdr2 : L.drop (n + 1) with
            | nil => rw [hdr2] at h2; exact h2.elim
            | cons q2 r2 =>
              rw [hdr2] at h2
              have h3 := h2 hml H1 locs1 ls hP1 hD1 hS1 hl
              rw [xnext hT hq hdr2] at h3
              exact h3
def t_copyF (st : List Value) (aw : xA) (k : List Value → xA → Prop) : Prop := match st with
  | .int n :: .int dp :: .ref a :: .int sp :: .ref b :: st => match xsm st with
    | true => match xaF (xn aw b) with
      | some (n0, f) => match xaF (xn aw a) with
        | some (n1, g) => ∃ z : Nat, sp = nI 0 ∧ dp = nI 0 ∧ n = nI z ∧ z ≤ n0 ∧ z ≤ n1 ∧ z < 2 ^ 31 ∧ k st (xu aw a (.inl (1, n1, .inr (.inr (.inl (va_cpy f g 0 0 z))))))
        | _ => False
      | _ => False
    | false => False
  | _ => False
set_option maxRecDepth 100000 in
set_option maxHeartbeats 4000000 in
theorem f_copyF {d j : Nat} {own : String} (hws : ∀ w ∈ ([.methodLink own j arraycopyName, .native arraycopyName, .static arraycopyName, .initialized "java/lang/System"] : List Cond), w ∈ xG) (hd : 1 ≤ d) : xEnt l d D ad cy own (2 * j + 1) t_copyF := by
  intro cc L Fd Cn p e s m args below meth c Q A hA F n q hq hi lv st aw k hk kk
  rcases hi with ⟨j2, h1, h2⟩ | ⟨j2, h1, h2⟩
  · omega
  have : j2 = j := by omega
  subst this
  match st, hk with
  | .int nn :: .int dp :: .ref a :: .int sp :: .ref b :: st, hk =>
    cases hs : xsm st with
    | false => simp only [t_copyF, hs] at hk
    | true =>
      cases hb0 : xaF (xn aw b) with
      | none => simp only [t_copyF, hs, hb0] at hk
      | some z0 =>
        obtain ⟨n0, f⟩ := z0
        cases ha0 : xaF (xn aw a) with
        | none => simp only [t_copyF, hs, hb0, ha0] at hk
        | some z1 =>
          obtain ⟨n1, g⟩ := z1
          simp only [t_copyF, hs, hb0, ha0] at hk
          obtain ⟨z, rfl, rfl, rfl, hz0, hz1, hz, hk⟩ := hk
          have hwb := xaF_eq hb0
          have hwa := xaF_eq ha0
          obtain ⟨hx, hb, hts, hown, hK, hE, hT, -, -, -, -⟩ := id F
          have hdq := xdec hE hq
          have hN := xlenq hT hq
          cases hdr : L.drop n with
          | nil =>
            have h1 : (L.drop n).head? = some q := by rw [List.head?_drop]; exact hq
            rw [hdr] at h1
            cases h1
          | cons q' r' =>
            have h3 := (xdrop hdr).1
            rw [hq] at h3
            cases h3
            intro hml H locs ls hP hD hS hl
            obtain ⟨pc, i9, len, t9⟩ := q
            have h1 : i9 = .invokestatic j2 := h1
            subst h1
            have hlen : len = 3 := of_decide_eq_true hN
            subst hlen
            have c0 : (nI 0).toNatClampNeg = 0 := nI_clamp (by decide)
            have cz : (nI z).toNatClampNeg = z := nI_clamp hz
            refine va_copyf (rest := st.map (xv ad)) hx hb (by rw [hl.1]; exact hml.symm) hown (hts _ (hws _ (by simp))) (hts _ (hws _ (by simp))) (hts _ (hws _ (by simp))) (hts _ (hws _ (by simp))) hK hP hD hS b a 1 1 (xw_get hwb) (xw_get hwa) rfl rfl rfl (sp := nI 0) (dp := nI 0) (n := nI z) (by decide) (by decide) (nI_pos hz) (by rw [c0, cz]; omega) (by rw [c0, cz]; omega) (fun _ _ => rfl) hd (by
              have h9 := xsm_ok (ad := ad) hs
              have h8 : nativeFrameWords "java/lang/System" "arraycopy" 5 = 7 := by decide
              show _ ≤ 40 * d
              rw [h8]
              omega) hdq (fun H1 locs1 hP1 hD1 hS1 => ?_)
            rw [c0, cz] at hP1 hD1
            have e1 : (xw ad cy aw).set a (ad a, .inl (cy 1, n1, .inr (.inr (.inl (va_cpy f g 0 0 z))))) = xw ad cy (xu aw a (.inl (1, n1, .inr (.inr (.inl (va_cpy f g 0 0 z)))))) := xw_set (e := .inl (1, n1, .inr (.inr (.inl (va_cpy f g 0 0 z)))))
            rw [e1] at hP1 hD1
            have h2 := kk _ _ hk
            cases hdr2 : L.drop (n + 1) with
            | nil => rw [hdr2] at h2; exact h2.elim
            | cons q2 r2 =>
              rw [hdr2] at h2
              have h3 := h2 hml H1 locs1 ls hP1 hD1 hS1 hl
              rw [xnext hT hq hdr2] at h3
              exact h3
def t_min (st : List Value) (aw : xA) (k : List Value → xA → Prop) : Prop := match st with
  | .int y :: .int x :: st => match xsm st with
    | true => k (.int (if y < x then y else x) :: st) aw
    | false => False
  | _ => False
set_option maxRecDepth 100000 in
set_option maxHeartbeats 4000000 in
theorem f_min {d j : Nat} {own : String} (hws : ∀ w ∈ ([.methodLink own j Lib.Math.min.name, .static Lib.Math.min.name, .initialized "java/lang/Math", .code Lib.Math.min.name Lib.Math.min.code 2 (some .int)] : List Cond), w ∈ xG) (hd : 1 ≤ d) : xEnt l d D ad cy own (2 * j + 1) t_min := by
  intro cc L Fd Cn p e s m args below meth c Q A hA F n q hq hi lv st aw k hk kk
  rcases hi with ⟨j2, h1, h2⟩ | ⟨j2, h1, h2⟩
  · omega
  have : j2 = j := by omega
  subst this
  match st, hk with
  | .int y :: .int x :: st, hk =>
    cases hs : xsm st with
    | false => simp only [t_min, hs] at hk
    | true =>
      simp only [t_min, hs] at hk
      obtain ⟨hx, hb, hts, hown, hK, hE, hT, -, -, -, -⟩ := id F
      have hdq := xdec hE hq
      have hN := xlenq hT hq
      cases hdr : L.drop n with
      | nil =>
        have h1 : (L.drop n).head? = some q := by rw [List.head?_drop]; exact hq
        rw [hdr] at h1
        cases h1
      | cons q' r' =>
        have h3 := (xdrop hdr).1
        rw [hq] at h3
        cases h3
        intro hml H locs ls hP hD hS hl
        obtain ⟨pc, i9, len, t9⟩ := q
        have h1 : i9 = .invokestatic j2 := h1
        subst h1
        have hlen : len = 3 := of_decide_eq_true hN
        subst hlen
        refine va_mmin (rest := st.map (xv ad)) hx hb (by rw [hl.1]; exact hml.symm) hown (hts _ (hws _ (by simp))) (hts _ (hws _ (by simp))) (hts _ (hws _ (by simp))) (hts _ (hws _ (by simp))) hd (by
          have h9 := xsm_ok (ad := ad) hs
          show _ ≤ 40 * d
          omega) (Nat.le_refl _) (Nat.le_refl _) hdq ?_
        have h2 := kk _ _ hk
        cases hdr2 : L.drop (n + 1) with
        | nil => rw [hdr2] at h2; exact h2.elim
        | cons q2 r2 =>
          rw [hdr2] at h2
          have h3 := h2 hml H locs ls hP hD hS hl
          rw [xnext hT hq hdr2] at h3
          exact h3
end C6
