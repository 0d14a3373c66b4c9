/-! the steps of a constructor are sound -/
section ZT
variable {p : Program} {l : Launch} {e : Env} {R : Room} {s : State} {m : MethodId} {args : Array Value} {below : List Frame} {meth : Method} {c : Code} {Q : State → Prop} {A : Nat → Prop} {D : va_G} {cy : Nat → ClassId} {a0 : Nat}
theorem zput_ok {ad : Nat → Nat} {v : Value} {ty : FieldType} (h : zput v ty = true) : narrow ty (xv ad v) = xv ad v ∧ fits ty (xv ad v) = true := by
  cases v <;> cases ty <;> first | (cases h; done) | exact ⟨rfl, rfl⟩
theorem zsc_parts {lv : xO} {st : List Value} {aw : xA} (h : zsc lv st aw = true) : 0 < aw.length ∧ lv.all (osc aw.length) = true ∧ st.all (vsc aw.length) = true ∧ aw.all (esc aw.length) = true := by
  unfold zsc at h
  rw [Bool.and_eq_true, Bool.and_eq_true, Bool.and_eq_true] at h
  exact ⟨blt_lt h.1, h.2.1, h.2.2.1, h.2.2.2⟩
/-- after something was made at the place behind the last -/
theorem zmade {ad : Nat → Nat} {L : xC} {cells slots n : Nat} {q : xI} {lv : xO} {st : List Value} {aw : xA} {e9 : va_E} (hT : xokT L = true) (hq : L[n]? = some q) (hsc : zsc lv st aw = true) (h0 : ad 0 = a0) (he : ∀ ad2 : Nat → Nat, xe ad2 cy e9 = xe ad cy e9) (next : zWc p l e R s m args below meth c Q A D cy a0 cells slots (L.drop (n + 1)) lv (.ref aw.length :: st) (aw ++ [e9])) (hml : lv.length = c.maxLocals) {H : Heap} {locs : List Loc} {ls : Array Slot} {q9 : Nat}
    (hP : va_P D vwCl (xw ad cy aw ++ [(q9, xe ad cy e9)]) H) (hD : va_D A (xw ad cy aw ++ [(q9, xe ad cy e9)])) (hS : va_S A s.heap H locs) (hl : lv_has ls lv.length (xa ad lv)) : W p l e R s m args below meth c H locs cells slots Q (F0 m (q.1 + q.2.2.1) ls (.ref q9 :: st.map (xv ad))) := by
  obtain ⟨k1, k2, k3, k4⟩ := zsc_parts hsc
  have ha : agr aw.length ad (fun k => if k = aw.length then q9 else ad k) := fun k hk => if_neg (by omega)
  have h1 := next (fun k => if k = aw.length then q9 else ad k) (by show (if 0 = aw.length then q9 else ad 0) = a0; rw [if_neg (by omega)]; exact h0)
  cases hdr2 : L.drop (n + 1) with
  | nil => rw [hdr2] at h1; exact h1.elim
  | cons q2 r2 =>
    rw [hdr2] at h1
    have h3 := h1 hml H locs ls (by rw [xw_snoc he k4]; exact hP) (by rw [xw_snoc he k4]; exact hD) hS (by rw [xa_agr ha k2]; exact hl)
    rw [xnext hT hq hdr2] at h3
    have e2 : (Value.ref aw.length :: st).map (xv (fun k => if k = aw.length then q9 else ad k)) = .ref q9 :: st.map (xv ad) := by
      show Value.ref (if aw.length = aw.length then q9 else ad aw.length) :: _ = _
      rw [if_pos rfl, vsc_map ha k3]
    rw [e2] at h3
    exact h3
theorem ra_uq {ty : FieldType} (h : ty = .double ∨ ty = .float ∨ ty = .int ∨ ty = .boolean ∨ ty = .long) {cA cB : ClassId} (h1 : va_RA s cA ty) (h2 : va_RA s cB ty) : cA = cB := by
  rcases h with rfl | rfl | rfl | rfl | rfl <;> exact Option.some.inj (h1.symm.trans h2)
set_option maxHeartbeats 1000000 in
theorem zstep_ok {cc : ByteArray} {own : String} {L : xC} {Fd : Nat → Option (Nat × Nat)} {Cn : Nat → Option Value} {Cw : Nat → Option (Nat × List Value)} {Ck : Nat → xO → List Value → xA → Nat → Nat → (Nat → Nat → List Value → xA → Prop) → Prop} {Rt : Nat → Nat → List Value → xA → Prop} (F : xFix p s m args c D cy cc own L Fd Cn) (hA : ∀ q, s.heap.size ≤ q → A q) (hin : meth.name = "<init>") (hdc : ∀ j ci k, Fd j = some (ci, k) → ∀ C T N, vwCl[ci]? = some (C, T, N) → (T k).2.2.2 = true → (T k).1 = own) (hCw : zClOk own Cw)
    (hCk : ∀ n q j, L[n]? = some q → q.2.1 = .invokespecial j → q.2.2.1 = 3 → ∀ lv st aw c9 s9 k, Ck j lv st aw c9 s9 k → (∀ c' s' st' aw', k c' s' st' aw' → zWc p l e R s m args below meth c Q A D cy a0 c' s' (L.drop (n + 1)) lv st' aw') → zWc p l e R s m args below meth c Q A D cy a0 c9 s9 (L.drop n) lv st aw)
    (hRt : ∀ (ad : Nat → Nat), ad 0 = a0 → ∀ c9 s9 n q lv vs aw, L[n]? = some q → xret q.2.1 vs → Rt c9 s9 vs aw → xWc p l e R s m args below meth c Q A D ad cy c9 s9 (L.drop n) lv vs aw)
    (n c9 s9 : Nat) (lv : xO) (st : List Value) (aw : xA) {go : Nat → Nat → xC → xO → List Value → xA → Prop} (h : zstep R.cells R.slots L Fd Cn Cw Ck Rt go c9 s9 (L.drop n) lv st aw)
    (hgo : ∀ (n' c' s' : Nat) (lv' : xO) (st' : List Value) (aw' : xA), lv'.length = lv.length → go c' s' (L.drop n') lv' st' aw' → zWc p l e R s m args below meth c Q A D cy a0 c' s' (L.drop n') lv' st' aw') : zWc p l e R s m args below meth c Q A D cy a0 c9 s9 (L.drop n) lv st aw := by
  obtain ⟨hx, hb, hts, hown, hK, hE, hT, hFd, -, -, -⟩ := id F
  cases hcs : L.drop n with
  | nil => rw [hcs] at h; exact h.elim
  | cons q cs =>
  obtain ⟨hq, hcs'⟩ := xdrop hcs
  have hd := xdec hE hq
  have hold : xstep L Fd Cn (fun _ _ _ _ => False) (Rt c9 s9) (go c9 s9) (L.drop n) lv st aw → zWc p l e R s m args below meth c Q A D cy a0 c9 s9 (q :: cs) lv st aw := fun h9 ad h0 => by
    have h8 := xstep_ok (ad := ad) (Q := Q) (A := A) (R := R) (e := e) (l := l) (below := below) (meth := meth) F (fun _ _ _ _ _ _ _ _ _ h => h.elim) (hRt ad h0 c9 s9) n lv st aw h9 (fun n' lv' st' aw' hle hg => hgo n' c9 s9 lv' st' aw' hle hg ad h0)
    rw [hcs] at h8
    exact h8
  rw [hcs] at h hold
  obtain ⟨pc, i, len, t⟩ := q
  cases i with
  | new j =>
    cases hb1 : Nat.beq len 3 && zsc lv st aw with
    | false => simp only [zstep, hb1] at h
    | true =>
      have hb2 := hb1
      rw [Bool.and_eq_true] at hb2
      have := Nat.eq_of_beq_eq_true hb2.1
      subst this
      cases hw : Cw j with
      | none => simp only [zstep, hb1, hw] at h
      | some z =>
        obtain ⟨ci, fs⟩ := z
        simp only [zstep, hb1, hw] at h
        obtain ⟨hc1, hs1, h⟩ := h
        obtain ⟨C, T, N, g1, g2, g3, g4, g5, g6, g7⟩ := hCw j ci fs hw
        obtain ⟨i1, i2, i3⟩ := xcls ci C T N g1
        rw [← hcs'] at h
        have next := hgo (n + 1) (c9 + 1) (s9 + fs.length) lv _ _ rfl h
        have hxe : ∀ ad2 : Nat → Nat, xe ad2 cy (.inr (ci, fs)) = .inr (ci, fs) := fun ad2 => by show Sum.inr (ci, fs.map (xv ad2)) = _; rw [nrf_map g7]
        intro ad h0 hml H locs ls hP hD hS hl
        refine va_new (C := C) (T := T) (N := N) (fs := fs) hx hb hts i1 (xtyp ci) i2 hown (hts _ g3) (hts _ g4) (hts _ g5) hK hP hD hS hA g1 g6 hc1 (by rw [← g2]; exact hs1) hd (fun q9 H1 hP1 hD1 hS1 => ?_)
        rw [← g2]
        exact zmade hT hq hb2.2 h0 (fun ad2 => by rw [hxe, hxe]) next hml (by rw [hxe]; exact hP1) (by rw [hxe]; exact hD1) hS1 hl
  | newarray k =>
    cases hk : zkd k with
    | none => simp only [zstep, hk] at h
    | some kd =>
      simp only [zstep, hk] at h
      match st, h with
      | .int n9 :: st, h =>
        cases hb1 : Nat.beq len 2 && zsc lv st aw with
        | false => simp only [hb1] at h
        | true =>
          have hb2 := hb1
          rw [Bool.and_eq_true] at hb2
          have := Nat.eq_of_beq_eq_true hb2.1
          subst this
          simp only [hb1] at h
          obtain ⟨N, rfl, hN, hc1, hs1, h⟩ := h
          rw [← hcs'] at h
          have next := hgo (n + 1) (c9 + 1) (s9 + N) lv _ _ rfl h
          intro ad h0 hml H locs ls hP hD hS hl
          have z9 := zarr_ok
          cases k <;> first | (cases hk; done) | skip
          all_goals
            cases hk
            first
              | exact znewa (ad := ad) (kd := 0) (ty := .double) hx hb hts rfl (z9 _ (by decide)) hK rfl (fun _ _ => ra_uq (by decide)) (fun _ => rfl) hP hD hS hA hN (by decide) hc1 hs1 hd (fun q9 H1 hP1 hD1 hS1 => zmade hT hq hb2.2 h0 (fun _ => rfl) next hml hP1 hD1 hS1 hl)
              | exact znewa (ad := ad) (kd := 1) (ty := .float) hx hb hts rfl (z9 _ (by decide)) hK rfl (fun _ _ => ra_uq (by decide)) (fun _ => rfl) hP hD hS hA hN (by decide) hc1 hs1 hd (fun q9 H1 hP1 hD1 hS1 => zmade hT hq hb2.2 h0 (fun _ => rfl) next hml hP1 hD1 hS1 hl)
              | exact znewa (ad := ad) (kd := 2) (ty := .int) hx hb hts rfl (z9 _ (by decide)) hK rfl (fun _ _ => ra_uq (by decide)) (fun _ => rfl) hP hD hS hA hN (by decide) hc1 hs1 hd (fun q9 H1 hP1 hD1 hS1 => zmade hT hq hb2.2 h0 (fun _ => rfl) next hml hP1 hD1 hS1 hl)
              | exact znewa (ad := ad) (kd := 3) (ty := .boolean) hx hb hts rfl (z9 _ (by decide)) hK rfl (fun _ _ => ra_uq (by decide)) (fun _ => rfl) hP hD hS hA hN (by decide) hc1 hs1 hd (fun q9 H1 hP1 hD1 hS1 => zmade hT hq hb2.2 h0 (fun _ => rfl) next hml hP1 hD1 hS1 hl)
              | exact znewa (ad := ad) (kd := 4) (ty := .long) hx hb hts rfl (z9 _ (by decide)) hK rfl (fun _ _ => ra_uq (by decide)) (fun _ => rfl) hP hD hS hA hN (by decide) hc1 hs1 hd (fun q9 H1 hP1 hD1 hS1 => zmade hT hq hb2.2 h0 (fun _ => rfl) next hml hP1 hD1 hS1 hl)
  | putfield j =>
    have hlen : len = 3 := of_decide_eq_true (xlenq hT hq)
    subst hlen
    match st, h with
    | v :: .ref a :: st, h =>
      cases hf : Fd j with
      | none => simp only [zstep, hf] at h
      | some z =>
        obtain ⟨ci, k⟩ := z
        obtain ⟨C, T, N, h1, h2, h3, h4, h5, h6, h7⟩ := hFd j ci k hf
        cases hw : xn aw a with
        | none => simp only [zstep, hf, hw] at h
        | some z =>
          cases z with
          | inl z => simp only [zstep, hf, hw] at h
          | inr z =>
            obtain ⟨cj, fs⟩ := z
            cases hbq : Nat.beq cj ci && zput v (xtyp ci k) with
            | false => simp only [zstep, hf, hw, hbq] at h
            | true =>
              have hbq' := hbq
              rw [Bool.and_eq_true] at hbq'
              obtain ⟨he, hpt⟩ := hbq'
              have he := Nat.eq_of_beq_eq_true he
              subst he
              cases hv : xf fs k with
              | none => simp only [zstep, hf, hw, hbq, hv] at h
              | some v0 =>
                simp only [zstep, hf, hw, hbq, hv] at h
                rw [← hcs'] at h
                have next := hgo (n + 1) c9 s9 lv _ _ rfl h
                intro ad h0 hml H locs ls hP hD hS hl
                obtain ⟨hnar, hfit⟩ := zput_ok (ad := ad) hpt
                have hln : k < (fs.map (xv ad)).length := by
                  rw [List.length_map]
                  rw [xf_eq] at hv
                  exact (List.getElem?_eq_some_iff.mp hv).1
                have e1 : (xw ad cy aw).set a (ad a, .inr (cj, (fs.map (xv ad)).set k (xv ad v))) = xw ad cy (xu aw a (.inr (cj, xfu fs k v))) := by
                  rw [← xw_set, xfu_eq]
                  show _ = (xw ad cy aw).set a (ad a, .inr (cj, (fs.set k v).map (xv ad)))
                  rw [List.map_set]
                have kk : ∀ (H1 : Heap) (locs1 : List Loc), va_P D vwCl ((xw ad cy aw).set a (ad a, .inr (cj, (fs.map (xv ad)).set k (xv ad v)))) H1 → va_D A ((xw ad cy aw).set a (ad a, .inr (cj, (fs.map (xv ad)).set k (xv ad v)))) → va_S A s.heap H1 locs1 → W p l e R s m args below meth c H1 locs1 c9 s9 Q (F0 m (pc + 3) ls (st.map (xv ad))) := by
                  intro H1 locs1 hP1 hD1 hS1
                  rw [e1] at hP1 hD1
                  have h8 := next ad h0
                  cases hdr2 : L.drop (n + 1) with
                  | nil => rw [hdr2] at h8; exact h8.elim
                  | cons q2 r2 =>
                    rw [hdr2] at h8
                    have h9 := h8 hml H1 locs1 ls hP1 hD1 hS1 hl
                    rw [xnext hT hq hdr2] at h9
                    exact h9
                cases hfin : (T k).2.2.2 with
                | false => exact va_put (C := C) (T := T) (N := N) (v := xv ad v) hx hb hts h4 (xtyp cj) h5 h6 hown hK hP hD hS a (xw_get hw) h1 k h2 (hts _ h3) (fun _ z => z) hfin (h5 k h2) hnar hfit hln hd kk
                | true => exact va_putF (C := C) (T := T) (N := N) (v := xv ad v) hx hb hts h4 (xtyp cj) h5 h6 hown hK hP hD hS a (xw_get hw) h1 k h2 (hts _ h3) (fun _ z => z) hfin hin (hdc j cj k hf C T N h1 hfin) (h5 k h2) hnar hfit hln hd kk
  | invokespecial j =>
    cases hl3 : Nat.beq len 3 with
    | false => simp only [zstep, hl3] at h
    | true =>
    simp only [zstep, hl3] at h
    have h1 := hCk n _ j hq rfl (Nat.eq_of_beq_eq_true hl3) lv st aw c9 s9 _ h (fun c' s' st' aw' hg => hgo (n + 1) c' s' lv st' aw' rfl (by rw [hcs']; exact hg))
    rw [hcs] at h1
    exact h1
  | _ => exact hold h
theorem zxp_ok {cc : ByteArray} {own : String} {L : xC} {Fd : Nat → Option (Nat × Nat)} {Cn : Nat → Option Value} {Cw : Nat → Option (Nat × List Value)} {Ck : Nat → xO → List Value → xA → Nat → Nat → (Nat → Nat → List Value → xA → Prop) → Prop} {Rt : Nat → Nat → List Value → xA → Prop} (F : xFix p s m args c D cy cc own L Fd Cn) (hA : ∀ q, s.heap.size ≤ q → A q) (hin : meth.name = "<init>") (hdc : ∀ j ci k, Fd j = some (ci, k) → ∀ C T N, vwCl[ci]? = some (C, T, N) → (T k).2.2.2 = true → (T k).1 = own) (hCw : zClOk own Cw)
    (hCk : ∀ n q j, L[n]? = some q → q.2.1 = .invokespecial j → q.2.2.1 = 3 → ∀ lv st aw c9 s9 k, Ck j lv st aw c9 s9 k → (∀ c' s' st' aw', k c' s' st' aw' → zWc p l e R s m args below meth c Q A D cy a0 c' s' (L.drop (n + 1)) lv st' aw') → zWc p l e R s m args below meth c Q A D cy a0 c9 s9 (L.drop n) lv st aw)
    (hRt : ∀ (ad : Nat → Nat), ad 0 = a0 → ∀ c9 s9 n q lv vs aw, L[n]? = some q → xret q.2.1 vs → Rt c9 s9 vs aw → xWc p l e R s m args below meth c Q A D ad cy c9 s9 (L.drop n) lv vs aw)
    (cu : Nat → Bool) : ∀ (M c9 s9 k : Nat) (lv : xO) (st : List Value) (aw : xA), zxp R.cells R.slots L Fd Cn Cw Ck Rt (zWc p l e R s m args below meth c Q A D cy a0) cu M c9 s9 (L.drop k) lv st aw → zWc p l e R s m args below meth c Q A D cy a0 c9 s9 (L.drop k) lv st aw
  | 0, c9, s9, k, lv, st, aw, h => h
  | M + 1, c9, s9, k, lv, st, aw, h => zstep_ok F hA hin hdc hCw hCk hRt k c9 s9 lv st aw h (fun n' c' s' lv' st' aw' _ hg => by
      cases hc : cu (xpc (L.drop n')) with
      | true => simp only [hc] at hg; exact hg
      | false => simp only [hc] at hg; exact zxp_ok F hA hin hdc hCw hCk hRt cu M c' s' n' lv' st' aw' hg)
end ZT
