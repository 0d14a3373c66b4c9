/-! A symbolic run of straight code. A value's reference is a PLACE in the world (a list of cells); 'ad' gives the address of a place, 'cy' the array class of a kind (0 double, 1 float, 2 int, 3 boolean, 4 long). -/
abbrev xC : Type := List xI
abbrev xO : Type := List (Option Value)
abbrev xA : Type := List va_E
def xv (ad : Nat → Nat) (v : Value) : Value := match v with
  | .ref k => .ref (ad k)
  | w => w
def xe (ad : Nat → Nat) (cy : Nat → ClassId) (e : va_E) : va_E := match e with
  | .inl (k, a) => .inl (cy k, a)
  | .inr (c, fs) => .inr (c, fs.map (xv ad))
def xw (ad : Nat → Nat) (cy : Nat → ClassId) (aw : xA) : va_W := aw.zipIdx.map (fun q => (ad q.2, xe ad cy q.1))
def xty (cy : Nat → ClassId) : List (ClassId × FieldType) := [(cy 0, .double), (cy 1, .float), (cy 2, .int), (cy 3, .boolean), (cy 4, .long)]
/-- a local by its number -/
def xg : xO → Nat → Option Value
  | [], _ => none
  | o :: _, 0 => o
  | _ :: r, i + 1 => xg r i
/-- what is left of a value whose second half is overwritten -/
def xk (o : Option Value) : Option Value := match o with
  | some (.double _) => none
  | some (.long _) => none
  | w => w
def xs1 : xO → Nat → Value → Option xO
  | [], _, _ => none
  | _ :: r, 0, v => some (some v :: r)
  | o :: r, i + 1, v => match xs1 r i v with
    | some r' => some ((match i with
      | 0 => xk o
      | _ + 1 => o) :: r')
    | none => none
def xs2 : xO → Nat → Value → Option xO
  | [], _, _ => none
  | _ :: r, 0, v => match r with
    | [] => none
    | _ :: r => some (some v :: none :: r)
  | o :: r, i + 1, v => match xs2 r i v with
    | some r' => some ((match i with
      | 0 => xk o
      | _ + 1 => o) :: r')
    | none => none
def xn : xA → Nat → Option va_E
  | [], _ => none
  | e :: _, 0 => some e
  | _ :: r, i + 1 => xn r i
def xu : xA → Nat → va_E → xA
  | [], _, _ => []
  | _ :: r, 0, e => e :: r
  | d :: r, i + 1, e => d :: xu r i e
def xf : List Value → Nat → Option Value
  | [], _ => none
  | v :: _, 0 => some v
  | _ :: r, i + 1 => xf r i
def xfu : List Value → Nat → Value → List Value
  | [], _, _ => []
  | _ :: r, 0, v => v :: r
  | d :: r, i + 1, v => d :: xfu r i v
/-- a field's type, and whether it is final -/
def xtyp (ci k : Nat) : FieldType := match ci with
  | 0 => tyX0 k
  | 1 => tyX1 k
  | 2 => tyX2 k
  | 3 => tyX3 k
  | 4 => tyX4 k
  | _ => tyX5 k
def xfin (ci k : Nat) : Bool := match ci with
  | 0 => (TX0 k).2.2.2
  | 1 => (TX1 k).2.2.2
  | 2 => (TX2 k).2.2.2
  | 3 => (TX3 k).2.2.2
  | 4 => (TX4 k).2.2.2
  | _ => (TX5 k).2.2.2
/-- a number of a number's type goes into a field that is not final -/
def xput (v : Value) (ty : FieldType) (fin : Bool) : Bool := match fin with
  | true => false
  | false => match v with
    | .int _ => match ty with
      | .int => true
      | _ => false
    | .double _ => match ty with
      | .double => true
      | _ => false
    | .float _ => match ty with
      | .float => true
      | _ => false
    | _ => false
/-- the locals that are known, as the kit lists them -/
def xa (ad : Nat → Nat) (lv : xO) : List (Nat × Value) := lv.zipIdx.filterMap (fun q => q.1.map (fun v => (q.2, xv ad v)))
def xb (b : Bool) : Int32 := if b then 1 else 0
def xaD (o : Option va_E) : Option (Nat × (Nat → UInt64)) := match o with
  | some (.inl (0, n, .inr (.inr (.inr (.inl f))))) => some (n, f)
  | _ => none
def xaF (o : Option va_E) : Option (Nat × (Nat → UInt32)) := match o with
  | some (.inl (1, n, .inr (.inr (.inl f)))) => some (n, f)
  | _ => none
def xaI (o : Option va_E) : Option (Nat × (Nat → Int32)) := match o with
  | some (.inl (2, n, .inl f)) => some (n, f)
  | _ => none
def xaZ (o : Option va_E) : Option (Nat × (Nat → Int32)) := match o with
  | some (.inl (3, n, .inl f)) => some (n, f)
  | _ => none
/-- the code from the instruction at a on -/
def xat : xC → Nat → xC
  | [], _ => []
  | q :: r, a => match Nat.beq q.1 a with
    | true => q :: r
    | false => xat r a
/-- a switch's cases -/
def xsw (x : Int32) (f : Int → Prop) : List Int → Int → Prop
  | [], _ => True
  | o :: r, k => (x.toInt = k → f o) ∧ xsw x f r (k + 1)
/-- one instruction: what it asks, and where it goes on -/
def xstep (L : xC) (Fd : Nat → Option (Nat × Nat)) (Cn : Nat → Option Value) (Cl : Nat → List Value → xA → (List Value → xA → Prop) → Prop) (Rt : List Value → xA → Prop) (go : xC → xO → List Value → xA → Prop) (cs : xC) (lv : xO) (st : List Value) (aw : xA) : Prop := match cs with
  | [] => False
  | (pc, i, _, t) :: cs => match i with
    | .tableswitch dflt lo hi offs => match st with
      | .int x :: st => (x.toInt < lo ∨ hi < x.toInt → go (xat L ((pc : Int) + dflt).toNat) lv st aw) ∧ xsw x (fun o => go (xat L ((pc : Int) + o).toNat) lv st aw) offs.toList lo
      | _ => False
    | .iconst k => go cs lv (.int (Int32.ofInt k) :: st) aw
    | .bipush k => go cs lv (.int (Int8.ofInt k).toInt32 :: st) aw
    | .sipush k => go cs lv (.int (Int16.ofInt k).toInt32 :: st) aw
    | .lconst k => go cs lv (.long (Int64.ofNat k.val) :: st) aw
    | .fconst k => match k with
      | 0 => go cs lv (.float FP.fconst0 :: st) aw
      | 1 => go cs lv (.float FP.fconst1 :: st) aw
      | 2 => go cs lv (.float FP.fconst2 :: st) aw
    | .dconst k => match k with
      | 0 => go cs lv (.double FP.dconst0 :: st) aw
      | 1 => go cs lv (.double FP.dconst1 :: st) aw
    | .ldc j => match Cn j with
      | some (.float x) => go cs lv (.float x :: st) aw
      | _ => False
    | .ldc2_w j => match Cn j with
      | some (.double x) => go cs lv (.double x :: st) aw
      | _ => False
    | .iload_n k => match xg lv k.val with
      | some (.int x) => go cs lv (.int x :: st) aw
      | _ => False
    | .iload k => match xg lv k with
      | some (.int x) => go cs lv (.int x :: st) aw
      | _ => False
    | .fload_n k => match xg lv k.val with
      | some (.float x) => go cs lv (.float x :: st) aw
      | _ => False
    | .fload k => match xg lv k with
      | some (.float x) => go cs lv (.float x :: st) aw
      | _ => False
    | .dload_n k => match xg lv k.val with
      | some (.double x) => go cs lv (.double x :: st) aw
      | _ => False
    | .dload k => match xg lv k with
      | some (.double x) => go cs lv (.double x :: st) aw
      | _ => False
    | .aload_n k => match xg lv k.val with
      | some (.ref x) => go cs lv (.ref x :: st) aw
      | _ => False
    | .aload k => match xg lv k with
      | some (.ref x) => go cs lv (.ref x :: st) aw
      | _ => False
    | .istore_n k => match st with
      | .int x :: st => match xs1 lv k.val (.int x) with
        | some lv => go cs lv st aw
        | none => False
      | _ => False
    | .istore k => match st with
      | .int x :: st => match xs1 lv k (.int x) with
        | some lv => go cs lv st aw
        | none => False
      | _ => False
    | .fstore_n k => match st with
      | .float x :: st => match xs1 lv k.val (.float x) with
        | some lv => go cs lv st aw
        | none => False
      | _ => False
    | .fstore k => match st with
      | .float x :: st => match xs1 lv k (.float x) with
        | some lv => go cs lv st aw
        | none => False
      | _ => False
    | .astore_n k => match st with
      | .ref x :: st => match xs1 lv k.val (.ref x) with
        | some lv => go cs lv st aw
        | none => False
      | _ => False
    | .astore k => match st with
      | .ref x :: st => match xs1 lv k (.ref x) with
        | some lv => go cs lv st aw
        | none => False
      | _ => False
    | .dstore_n k => match st with
      | .double x :: st => match xs2 lv k.val (.double x) with
        | some lv => go cs lv st aw
        | none => False
      | _ => False
    | .dstore k => match st with
      | .double x :: st => match xs2 lv k (.double x) with
        | some lv => go cs lv st aw
        | none => False
      | _ => False
    | .iinc k n => match xg lv k with
      | some (.int x) => match xs1 lv k (.int (x + Int32.ofInt n)) with
        | some lv => go cs lv st aw
        | none => False
      | _ => False
    | .iadd => match st with
      | .int y :: .int x :: st => go cs lv (.int (x + y) :: st) aw
      | _ => False
    | .isub => match st with
      | .int y :: .int x :: st => go cs lv (.int (x - y) :: st) aw
      | _ => False
    | .imul => match st with
      | .int y :: .int x :: st => go cs lv (.int (x * y) :: st) aw
      | _ => False
    | .iand => match st with
      | .int y :: .int x :: st => go cs lv (.int (x &&& y) :: st) aw
      | _ => False
    | .ishl => match st with
      | .int y :: .int x :: st => go cs lv (.int (x <<< (y &&& 31)) :: st) aw
      | _ => False
    | .idiv => match st with
      | .int y :: .int x :: st => ¬ y = 0 ∧ go cs lv (.int (x / y) :: st) aw
      | _ => False
    | .irem => match st with
      | .int y :: .int x :: st => ¬ y = 0 ∧ go cs lv (.int (x - x / y * y) :: st) aw
      | _ => False
    | .dup => match st with
      | .int x :: st => go cs lv (.int x :: .int x :: st) aw
      | .ref x :: st => go cs lv (.ref x :: .ref x :: st) aw
      | _ => False
    | .dup2 => match st with
      | .int x :: .ref y :: st => go cs lv (.int x :: .ref y :: .int x :: .ref y :: st) aw
      | _ => False
    | .goto _ => go (L.drop t) lv st aw
    | .ifCond q _ => match st with
      | .int x :: st => match q with
        | .eq => (x = 0 → go (L.drop t) lv st aw) ∧ (¬ x = 0 → go cs lv st aw)
        | .ne => (¬ x = 0 → go (L.drop t) lv st aw) ∧ (x = 0 → go cs lv st aw)
        | .lt => (x < 0 → go (L.drop t) lv st aw) ∧ (¬ x < 0 → go cs lv st aw)
        | .ge => (0 ≤ x → go (L.drop t) lv st aw) ∧ (¬ 0 ≤ x → go cs lv st aw)
        | .gt => (0 < x → go (L.drop t) lv st aw) ∧ (¬ 0 < x → go cs lv st aw)
        | .le => (x ≤ 0 → go (L.drop t) lv st aw) ∧ (¬ x ≤ 0 → go cs lv st aw)
      | _ => False
    | .if_icmp q _ => match st with
      | .int y :: .int x :: st => match q with
        | .eq => (x = y → go (L.drop t) lv st aw) ∧ (¬ x = y → go cs lv st aw)
        | .ne => (¬ x = y → go (L.drop t) lv st aw) ∧ (x = y → go cs lv st aw)
        | .lt => (x < y → go (L.drop t) lv st aw) ∧ (¬ x < y → go cs lv st aw)
        | .ge => (y ≤ x → go (L.drop t) lv st aw) ∧ (¬ y ≤ x → go cs lv st aw)
        | .gt => (y < x → go (L.drop t) lv st aw) ∧ (¬ y < x → go cs lv st aw)
        | .le => (x ≤ y → go (L.drop t) lv st aw) ∧ (¬ x ≤ y → go cs lv st aw)
      | _ => False
    | .fadd => match st with
      | .float y :: .float x :: st => vf_n32 (FP.fadd x y) ∧ go cs lv (.float (FP.fadd x y) :: st) aw
      | _ => False
    | .fsub => match st with
      | .float y :: .float x :: st => vf_n32 (FP.fsub x y) ∧ go cs lv (.float (FP.fsub x y) :: st) aw
      | _ => False
    | .fmul => match st with
      | .float y :: .float x :: st => vf_n32 (FP.fmul x y) ∧ go cs lv (.float (FP.fmul x y) :: st) aw
      | _ => False
    | .fdiv => match st with
      | .float y :: .float x :: st => vf_n32 (FP.fdiv x y) ∧ go cs lv (.float (FP.fdiv x y) :: st) aw
      | _ => False
    | .dadd => match st with
      | .double y :: .double x :: st => vf_n64 (FP.dadd x y) ∧ go cs lv (.double (FP.dadd x y) :: st) aw
      | _ => False
    | .dsub => match st with
      | .double y :: .double x :: st => vf_n64 (FP.dsub x y) ∧ go cs lv (.double (FP.dsub x y) :: st) aw
      | _ => False
    | .dmul => match st with
      | .double y :: .double x :: st => vf_n64 (FP.dmul x y) ∧ go cs lv (.double (FP.dmul x y) :: st) aw
      | _ => False
    | .ddiv => match st with
      | .double y :: .double x :: st => vf_n64 (FP.ddiv x y) ∧ go cs lv (.double (FP.ddiv x y) :: st) aw
      | _ => False
    | .fneg => match st with
      | .float x :: st => go cs lv (.float (FP.fneg x) :: st) aw
      | _ => False
    | .dneg => match st with
      | .double x :: st => go cs lv (.double (FP.dneg x) :: st) aw
      | _ => False
    | .i2l => match st with
      | .int x :: st => go cs lv (.long x.toInt64 :: st) aw
      | _ => False
    | .i2f => match st with
      | .int x :: st => go cs lv (.float (FP.i2f x) :: st) aw
      | _ => False
    | .i2d => match st with
      | .int x :: st => go cs lv (.double (FP.i2d x) :: st) aw
      | _ => False
    | .f2i => match st with
      | .float x :: st => go cs lv (.int (FP.f2i x) :: st) aw
      | _ => False
    | .d2i => match st with
      | .double x :: st => go cs lv (.int (FP.d2i x) :: st) aw
      | _ => False
    | .f2d => match st with
      | .float x :: st => vf_n64 (FP.f2d x) ∧ go cs lv (.double (FP.f2d x) :: st) aw
      | _ => False
    | .d2f => match st with
      | .double x :: st => vf_n32 (FP.d2f x) ∧ go cs lv (.float (FP.d2f x) :: st) aw
      | _ => False
    | .fcmp q => match st with
      | .float y :: .float x :: st => go cs lv (.int (Op.cmpValue (FP.fcmp x y) q) :: st) aw
      | _ => False
    | .dcmp q => match st with
      | .double y :: .double x :: st => go cs lv (.int (Op.cmpValue (FP.dcmp x y) q) :: st) aw
      | _ => False
    | .getfield j => match st with
      | .ref a :: st => match Fd j with
        | some (ci, k) => match xn aw a with
          | some (.inr (cj, fs)) => match Nat.beq cj ci with
            | true => match xf fs k with
              | some v => go cs lv (v :: st) aw
              | none => False
            | false => False
          | _ => False
        | none => False
      | _ => False
    | .putfield j => match st with
      | v :: .ref a :: st => match Fd j with
        | some (ci, k) => match xn aw a with
          | some (.inr (cj, fs)) => match Nat.beq cj ci && xput v (xtyp ci k) (xfin ci k) with
            | true => match xf fs k with
              | some _ => go cs lv st (xu aw a (.inr (cj, xfu fs k v)))
              | none => False
            | false => False
          | _ => False
        | none => False
      | _ => False
    | .iaload => match st with
      | .int i :: .ref a :: st => match xaI (xn aw a) with
        | some (n, f) => ∃ j : Nat, i = nI j ∧ j < n ∧ n < 2 ^ 31 ∧ go cs lv (.int (f j) :: st) aw
        | _ => False
      | _ => False
    | .baload => match st with
      | .int i :: .ref a :: st => match xaZ (xn aw a) with
        | some (n, f) => ∃ j : Nat, i = nI j ∧ j < n ∧ n < 2 ^ 31 ∧ go cs lv (.int (f j) :: st) aw
        | _ => False
      | _ => False
    | .faload => match st with
      | .int i :: .ref a :: st => match xaF (xn aw a) with
        | some (n, f) => ∃ j : Nat, i = nI j ∧ j < n ∧ n < 2 ^ 31 ∧ go cs lv (.float (f j) :: st) aw
        | _ => False
      | _ => False
    | .daload => match st with
      | .int i :: .ref a :: st => match xaD (xn aw a) with
        | some (n, f) => ∃ j : Nat, i = nI j ∧ j < n ∧ n < 2 ^ 31 ∧ go cs lv (.double (f j) :: st) aw
        | _ => False
      | _ => False
    | .iastore => match st with
      | .int x :: .int i :: .ref a :: st => match xaI (xn aw a) with
        | some (n, f) => ∃ j : Nat, i = nI j ∧ j < n ∧ n < 2 ^ 31 ∧ go cs lv st (xu aw a (.inl (2, n, .inl (upd f j x))))
        | _ => False
      | _ => False
    | .bastore => match st with
      | .int x :: .int i :: .ref a :: st => match xaZ (xn aw a) with
        | some (n, f) => ∃ (j : Nat) (b : Bool), x = xb b ∧ i = nI j ∧ j < n ∧ n < 2 ^ 31 ∧ go cs lv st (xu aw a (.inl (3, n, .inl (upd f j (xb b)))))
        | _ => False
      | _ => False
    | .fastore => match st with
      | .float x :: .int i :: .ref a :: st => match xaF (xn aw a) with
        | some (n, f) => ∃ j : Nat, i = nI j ∧ j < n ∧ n < 2 ^ 31 ∧ go cs lv st (xu aw a (.inl (1, n, .inr (.inr (.inl (vf_upd f j x))))))
        | _ => False
      | _ => False
    | .dastore => match st with
      | .double x :: .int i :: .ref a :: st => match xaD (xn aw a) with
        | some (n, f) => ∃ j : Nat, i = nI j ∧ j < n ∧ n < 2 ^ 31 ∧ go cs lv st (xu aw a (.inl (0, n, .inr (.inr (.inr (.inl (vf_upd f j x)))))))
        | _ => False
      | _ => False
    | .invokevirtual j => Cl j st aw (fun st' aw' => go cs lv st' aw')
    | .invokestatic j => Cl j st aw (fun st' aw' => go cs lv st' aw')
    | .ireturn => match st with
      | [.int x] => Rt [.int x] aw
      | _ => False
    | .freturn => match st with
      | [.float x] => Rt [.float x] aw
      | _ => False
    | .dreturn => match st with
      | [.double x] => Rt [.double x] aw
      | _ => False
    | .return_ => match st with
      | [] => Rt [] aw
      | _ => False
    | _ => False
