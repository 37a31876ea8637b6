/-! A walk that is computed: a small machine over values and maps of numbers, which the JVM follows -/
abbrev xR : Type := Nat × Nat
abbrev xV : Type := Int32 ⊕ (Int64 ⊕ xR)
abbrev xM : Type := (xR → Nat → Int32) × (xR → Nat → Int64)
abbrev xF : Type := List xV → xM → Option (Option xV × xM)
abbrev xS : Type := Nat × List (Option xV) × List xV × xM
abbrev xX : Type := (Option xV × xM) ⊕ xS
abbrev xA : Type := Nat ⊕ (Int32 ⊕ (Int64 ⊕ List Nat))
/-- code: blocks by their first place; a cut has the live locals -/
abbrev xT : Type := List (Nat × Option (List Bool) × List (Nat × Instr × xA))
/-- a world's shape: what a tag is (0 an object of class n; 1 ints, 2 longs, 3 bytes, 4 booleans, 5 references: n of them), the kinds of a class's fields (0 int, 1 long, 2 reference, 3 boolean), what references are held, how many a tag has -/
abbrev xE : Type := (Nat → Nat × Nat) × (Nat → List Nat) × (xR → Nat → xR) × (Nat → Nat)
def xI (M : xM) (r : xR) (j : Nat) : Int32 := M.1 r j
def xL (M : xM) (r : xR) (j : Nat) : Int64 := M.2 r j
def xpI (M : xM) (r : xR) (j : Nat) (v : Int32) : xM := (fun r' j' => if r' = r ∧ j' = j then v else M.1 r' j', M.2)
def xpL (M : xM) (r : xR) (j : Nat) (v : Int64) : xM := (M.1, fun r' j' => if r' = r ∧ j' = j then v else M.2 r' j')
/-- an index within; not to be computed, so that no check runs it -/
noncomputable def xin (i : Int32) (n : Nat) : Bool := @decide (¬ i < 0 ∧ i.toNatClampNeg < n) (Classical.propDecidable _)
noncomputable def xb (v : Int32) : Bool := @decide (v = 0 ∨ v = 1) (Classical.propDecidable _)
def xlk {α : Type} : List (Nat × α) → Nat → Option α
  | [], _ => none
  | (k, v) :: t, n => match Nat.beq k n with
    | true => some v
    | false => xlk t n
def xnx (is : List (Nat × Instr × xA)) (pc : Nat) : Bool := match is with
  | (p, _, _) :: _ => Nat.beq p pc
  | [] => false
def xfor : List Bool → List (Option xV) → List (Option xV)
  | true :: b, v :: l => v :: xfor b l
  | false :: b, _ :: l => none :: xfor b l
  | _, _ => []
def xcat : xV → Nat
  | .inr (.inl _) => 2
  | _ => 1
def xcats : List xV → Nat
  | [] => 0
  | v :: l => xcat v + xcats l
def xtake : Nat → List xV → List xV → Option (List xV × List xV)
  | 0, l, acc => some (acc, l)
  | n + 1, v :: l, acc => xtake n l (v :: acc)
  | _ + 1, [], _ => none
def xst1 (L : List (Option xV)) (i : Nat) (v : xV) (k : List (Option xV) → Option xX) : Option xX := match Nat.blt i L.length with
  | true => match i with
    | 0 => k (L.set 0 (some v))
    | j + 1 => match L[j]? with
      | some (some (.inr (.inl _))) => none
      | _ => k (L.set (j + 1) (some v))
  | false => none
def xst2 (L : List (Option xV)) (i : Nat) (v : xV) (k : List (Option xV) → Option xX) : Option xX := match Nat.blt (i + 1) L.length with
  | true => match i with
    | 0 => k ((L.set 0 (some v)).set 1 none)
    | j + 1 => match L[j]? with
      | some (some (.inr (.inl _))) => none
      | _ => k ((L.set (j + 1) (some v)).set (j + 2) none)
  | false => none
def x1i (S : List xV) (k : Int32 → List xV → Option xX) : Option xX := match S with
  | .inl a :: S' => k a S'
  | _ => none
def x2i (S : List xV) (k : Int32 → Int32 → List xV → Option xX) : Option xX := match S with
  | .inl b :: .inl a :: S' => k a b S'
  | _ => none
def x2l (S : List xV) (k : Int64 → Int64 → List xV → Option xX) : Option xX := match S with
  | .inr (.inl b) :: .inr (.inl a) :: S' => k a b S'
  | _ => none
def xli (S : List xV) (k : Int64 → Int32 → List xV → Option xX) : Option xX := match S with
  | .inl b :: .inr (.inl a) :: S' => k a b S'
  | _ => none
def xlc (x : xA) (k : Int32 → Option xX) : Option xX := match x with
  | .inr (.inl c) => k c
  | _ => none
def xlw (x : xA) (k : Int64 → Option xX) : Option xX := match x with
  | .inr (.inr (.inl c)) => k c
  | _ => none
def xlt (x : xA) (k : Nat → Option xX) : Option xX := match x with
  | .inl a => k a
  | _ => none
def xgi (L : List (Option xV)) (i : Nat) (k : Int32 → Option xX) : Option xX := match L[i]? with
  | some (some (.inl x)) => k x
  | _ => none
def xgl (L : List (Option xV)) (i : Nat) (k : Int64 → Option xX) : Option xX := match L[i]? with
  | some (some (.inr (.inl x))) => k x
  | _ => none
def xga (L : List (Option xV)) (i : Nat) (k : xR → Option xX) : Option xX := match L[i]? with
  | some (some (.inr (.inr x))) => k x
  | _ => none
/-- an array of a kind at an index within -/
noncomputable def xar (E : xE) (c : Nat) (r : xR) (i : Int32) (k : Option xX) : Option xX := match E.1 r.1 with
  | (d, n) => match Nat.beq c d with
    | true => if xin i n then k else none
    | false => none
def xob (E : xE) (ft : List (Nat × Nat × Nat × Nat)) (idx : Nat) (r : xR) (k : Nat → Nat → Option xX) : Option xX := match xlk ft idx with
  | some (ci, f, kk) => match E.1 r.1 with
    | (d, cj) => match Nat.beq 0 d && Nat.beq ci cj with
      | true => k f kk
      | false => none
  | none => none
def xsw (v : Int32) (k : Nat) (ts : List Nat) (K : Nat → Option xX) : Option xX := match ts with
  | [] => none
  | [d] => K d
  | t :: ts' => if v = Int32.ofNat k then K t else xsw v (k + 1) ts' K
def xri (o : Option (Option xV × xM)) (k : Int32 → xM → Option xX) : Option xX := match o with
  | some (some (.inl v), M) => k v M
  | _ => none
def xrl (o : Option (Option xV × xM)) (k : Int64 → xM → Option xX) : Option xX := match o with
  | some (some (.inr (.inl v)), M) => k v M
  | _ => none
def xrv (o : Option (Option xV × xM)) (k : xM → Option xX) : Option xX := match o with
  | some (none, M) => k M
  | _ => none
def xrc (st : Bool) (tag : Nat) (As : List xV) : Bool := match st with
  | true => true
  | false => match As with
    | .inr (.inr r) :: _ => Nat.beq r.1 tag
    | _ => false
def xcl (ct : List (Nat × Bool × Nat × Nat × Nat × xF)) (st : Bool) (idx : Nat) (S : List xV) (M : xM) (k : List xV → xM → Option xX) : Option xX := match xlk ct idx with
  | some (st', tag, n, rk, f) => match st' == st with
    | true => match xtake n S [] with
      | some (As, S') => match Nat.ble (xcats S') 8 && xrc st tag As with
        | true => match rk with
          | 0 => xrv (f As M) fun M => k S' M
          | 1 => xri (f As M) fun v M => k (.inl v :: S') M
          | 3 => xrl (f As M) fun v M => k (.inr (.inl v) :: S') M
          | _ => none
        | false => none
      | none => none
    | false => none
  | none => none
noncomputable def xex (E : xE) (ft : List (Nat × Nat × Nat × Nat)) (ct : List (Nat × Bool × Nat × Nat × Nat × xF)) (rk : Nat) (K : Nat → List (Option xV) → List xV → xM → Option xX) (pc : Nat) (i : Instr) (x : xA) (L : List (Option xV)) (S : List xV) (M : xM) : Option xX :=
  match i with
  | .iconst _ => xlc x fun c => K (pc + 1) L (.inl c :: S) M
  | .bipush _ => xlc x fun c => K (pc + 2) L (.inl c :: S) M
  | .sipush _ => xlc x fun c => K (pc + 3) L (.inl c :: S) M
  | .ldc_w _ => xlc x fun c => K (pc + 3) L (.inl c :: S) M
  | .ldc _ => xlt x fun k => K (pc + 2) L (.inr (.inr (99, k)) :: S) M
  | .lconst _ => xlw x fun c => K (pc + 1) L (.inr (.inl c) :: S) M
  | .ldc2_w _ => xlw x fun c => K (pc + 3) L (.inr (.inl c) :: S) M
  | .iload_n n => xgi L n.val fun v => K (pc + 1) L (.inl v :: S) M
  | .iload n => xgi L n fun v => K (pc + 2) L (.inl v :: S) M
  | .lload_n n => xgl L n.val fun v => K (pc + 1) L (.inr (.inl v) :: S) M
  | .lload n => xgl L n fun v => K (pc + 2) L (.inr (.inl v) :: S) M
  | .aload_n n => xga L n.val fun v => K (pc + 1) L (.inr (.inr v) :: S) M
  | .aload n => xga L n fun v => K (pc + 2) L (.inr (.inr v) :: S) M
  | .istore_n n => x1i S fun v S => xst1 L n.val (.inl v) fun L => K (pc + 1) L S M
  | .istore n => x1i S fun v S => xst1 L n (.inl v) fun L => K (pc + 2) L S M
  | .lstore_n n => match S with
    | .inr (.inl v) :: S => xst2 L n.val (.inr (.inl v)) fun L => K (pc + 1) L S M
    | _ => none
  | .lstore n => match S with
    | .inr (.inl v) :: S => xst2 L n (.inr (.inl v)) fun L => K (pc + 2) L S M
    | _ => none
  | .iinc n _ => xlc x fun c => xgi L n fun v => xst1 L n (.inl (v + c)) fun L => K (pc + 3) L S M
  | .iadd => x2i S fun a b S => K (pc + 1) L (.inl (a + b) :: S) M
  | .isub => x2i S fun a b S => K (pc + 1) L (.inl (a - b) :: S) M
  | .imul => x2i S fun a b S => K (pc + 1) L (.inl (a * b) :: S) M
  | .iand => x2i S fun a b S => K (pc + 1) L (.inl (a &&& b) :: S) M
  | .ior => x2i S fun a b S => K (pc + 1) L (.inl (a ||| b) :: S) M
  | .ixor => x2i S fun a b S => K (pc + 1) L (.inl (a ^^^ b) :: S) M
  | .ishl => x2i S fun a b S => K (pc + 1) L (.inl (a <<< (b &&& 31)) :: S) M
  | .ishr => x2i S fun a b S => K (pc + 1) L (.inl (a >>> (b &&& 31)) :: S) M
  | .iushr => x2i S fun a b S => K (pc + 1) L (.inl ((a.toUInt32 >>> (b.toUInt32 &&& Int32.toUInt32 31)).toInt32) :: S) M
  | .idiv => x2i S fun a b S => if b = 0 then none else K (pc + 1) L (.inl (a / b) :: S) M
  | .irem => x2i S fun a b S => if b = 0 then none else K (pc + 1) L (.inl (a - a / b * b) :: S) M
  | .ineg => x1i S fun a S => K (pc + 1) L (.inl (-a) :: S) M
  | .ladd => x2l S fun a b S => K (pc + 1) L (.inr (.inl (a + b)) :: S) M
  | .lsub => x2l S fun a b S => K (pc + 1) L (.inr (.inl (a - b)) :: S) M
  | .lmul => x2l S fun a b S => K (pc + 1) L (.inr (.inl (a * b)) :: S) M
  | .land => x2l S fun a b S => K (pc + 1) L (.inr (.inl (a &&& b)) :: S) M
  | .lor => x2l S fun a b S => K (pc + 1) L (.inr (.inl (a ||| b)) :: S) M
  | .lxor => x2l S fun a b S => K (pc + 1) L (.inr (.inl (a ^^^ b)) :: S) M
  | .lcmp => x2l S fun a b S => K (pc + 1) L (.inl (lg_cmp a b) :: S) M
  | .lshl => xli S fun a b S => K (pc + 1) L (.inr (.inl (a <<< (b.toInt64 &&& 63))) :: S) M
  | .lushr => xli S fun a b S => K (pc + 1) L (.inr (.inl ((a.toUInt64 >>> (b.toInt64.toUInt64 &&& Int64.toUInt64 63)).toInt64)) :: S) M
  | .i2l => x1i S fun a S => K (pc + 1) L (.inr (.inl a.toInt64) :: S) M
  | .i2b => x1i S fun a S => K (pc + 1) L (.inl a.toInt8.toInt32 :: S) M
  | .l2i => match S with
    | .inr (.inl a) :: S => K (pc + 1) L (.inl a.toInt32 :: S) M
    | _ => none
  | .dup => match S with
    | v :: S => match xcat v with
      | 1 => K (pc + 1) L (v :: v :: S) M
      | _ => none
    | _ => none
  | .pop => match S with
    | v :: S => match xcat v with
      | 1 => K (pc + 1) L S M
      | _ => none
    | _ => none
  | .dup2 => match S with
    | v :: S => match xcat v with
      | 1 => match S with
        | w :: S => match xcat w with
          | 1 => K (pc + 1) L (v :: w :: v :: w :: S) M
          | _ => none
        | _ => none
      | _ => K (pc + 1) L (v :: v :: S) M
    | _ => none
  | .goto _ => xlt x fun a => K a L S M
  | .ifCond cnd _ => xlt x fun t => x1i S fun a S => match cnd with
    | .eq => if a = 0 then K t L S M else K (pc + 3) L S M
    | .ne => if a = 0 then K (pc + 3) L S M else K t L S M
    | .lt => if a < 0 then K t L S M else K (pc + 3) L S M
    | .ge => if 0 ≤ a then K t L S M else K (pc + 3) L S M
    | .gt => if 0 < a then K t L S M else K (pc + 3) L S M
    | .le => if a ≤ 0 then K t L S M else K (pc + 3) L S M
  | .if_icmp cnd _ => xlt x fun t => x2i S fun a b S => match cnd with
    | .eq => if a = b then K t L S M else K (pc + 3) L S M
    | .ne => if a = b then K (pc + 3) L S M else K t L S M
    | .lt => if a < b then K t L S M else K (pc + 3) L S M
    | .ge => if b ≤ a then K t L S M else K (pc + 3) L S M
    | .gt => if b < a then K t L S M else K (pc + 3) L S M
    | .le => if a ≤ b then K t L S M else K (pc + 3) L S M
  | .tableswitch _ _ _ _ => match x with
    | .inr (.inr (.inr ts)) => x1i S fun a S => xsw a 0 ts fun t => K t L S M
    | _ => none
  | .getfield idx => match S with
    | .inr (.inr r) :: S => xob E ft idx r fun f kk => match kk with
      | 1 => K (pc + 3) L (.inr (.inl (xL M r f)) :: S) M
      | 2 => K (pc + 3) L (.inr (.inr (E.2.2.1 r f)) :: S) M
      | _ => K (pc + 3) L (.inl (xI M r f) :: S) M
    | _ => none
  | .putfield idx => match S with
    | .inl v :: .inr (.inr r) :: S => xob E ft idx r fun f kk => match kk with
      | 0 => K (pc + 3) L S (xpI M r f v)
      | 3 => if xb v then K (pc + 3) L S (xpI M r f v) else none
      | _ => none
    | .inr (.inl v) :: .inr (.inr r) :: S => xob E ft idx r fun f kk => match kk with
      | 1 => K (pc + 3) L S (xpL M r f v)
      | _ => none
    | _ => none
  | .iaload => match S with
    | .inl j :: .inr (.inr r) :: S => xar E 1 r j (K (pc + 1) L (.inl (xI M r j.toNatClampNeg) :: S) M)
    | _ => none
  | .iastore => match S with
    | .inl v :: .inl j :: .inr (.inr r) :: S => xar E 1 r j (K (pc + 1) L S (xpI M r j.toNatClampNeg v))
    | _ => none
  | .laload => match S with
    | .inl j :: .inr (.inr r) :: S => xar E 2 r j (K (pc + 1) L (.inr (.inl (xL M r j.toNatClampNeg)) :: S) M)
    | _ => none
  | .lastore => match S with
    | .inr (.inl v) :: .inl j :: .inr (.inr r) :: S => xar E 2 r j (K (pc + 1) L S (xpL M r j.toNatClampNeg v))
    | _ => none
  | .baload => match S with
    | .inl j :: .inr (.inr r) :: S => match x with
      | .inl c => match Nat.beq c 3 || Nat.beq c 4 with
        | true => xar E c r j (K (pc + 1) L (.inl (xI M r j.toNatClampNeg) :: S) M)
        | false => none
      | _ => none
    | _ => none
  | .bastore => match S with
    | .inl v :: .inl j :: .inr (.inr r) :: S => match x with
      | .inl 3 => xar E 3 r j (K (pc + 1) L S (xpI M r j.toNatClampNeg v.toInt8.toInt32))
      | .inl 4 => xar E 4 r j (if xb v then K (pc + 1) L S (xpI M r j.toNatClampNeg v) else none)
      | _ => none
    | _ => none
  | .aaload => match S with
    | .inl j :: .inr (.inr r) :: S => xar E 5 r j (K (pc + 1) L (.inr (.inr (E.2.2.1 r j.toNatClampNeg)) :: S) M)
    | _ => none
  | .arraylength => match S with
    | .inr (.inr r) :: S => match E.1 r.1 with
      | (c, n) => match Nat.beq c 1 || Nat.beq c 2 with
        | true => K (pc + 1) L (.inl (Int32.ofNat n) :: S) M
        | false => none
    | _ => none
  | .invokevirtual idx => xcl ct false idx S M fun S M => K (pc + 3) L S M
  | .invokestatic idx => xcl ct true idx S M fun S M => K (pc + 3) L S M
  | .ireturn => match S with
    | [.inl v] => match rk with
      | 1 => some (.inl (some (.inl v), M))
      | 2 => if xb v then some (.inl (some (.inl v), M)) else none
      | _ => none
    | _ => none
  | .lreturn => match S with
    | [.inr (.inl v)] => match rk with
      | 3 => some (.inl (some (.inr (.inl v)), M))
      | _ => none
    | _ => none
  | .return_ => match S with
    | [] => match rk with
      | 0 => some (.inl (none, M))
      | _ => none
    | _ => none
  | _ => none
noncomputable def xo (E : xE) (ft : List (Nat × Nat × Nat × Nat)) (ct : List (Nat × Bool × Nat × Nat × Nat × xF)) (rk : Nat) (B : xT) : Nat → List (Nat × Instr × xA) → List (Option xV) → List xV → xM → Option xX
  | 0, _, _, _, _ => none
  | _ + 1, [], _, _, _ => none
  | n + 1, (pc, i, x) :: is, L, S, M => xex E ft ct rk (fun pc L S M => match xnx is pc with
    | true => xo E ft ct rk B n is L S M
    | false => match xlk B pc with
      | some (some b, _) => some (.inr (pc, xfor b L, S, M))
      | some (none, is) => xo E ft ct rk B n is L S M
      | none => none) pc i x L S M
noncomputable def xsg (E : xE) (ft : List (Nat × Nat × Nat × Nat)) (ct : List (Nat × Bool × Nat × Nat × Nat × xF)) (rk : Nat) (B : xT) (n : Nat) (s : xS) : Option xX := match xlk B s.1 with
  | some (_, is) => xo E ft ct rk B n is s.2.1 s.2.2.1 s.2.2.2
  | none => none
def xrun (sg : xS → Option xX) : Nat → xS → Option (Option xV × xM)
  | 0, _ => none
  | n + 1, s => match sg s with
    | some (.inl r) => some r
    | some (.inr s') => xrun sg n s'
    | none => none
noncomputable def xfix (sg : xS → Option xX) (s : xS) : Option (Option xV × xM) := by
  classical exact if h : ∃ r n, xrun sg n s = some r then some h.choose else none
def xlay : List xV → List (Option xV)
  | [] => []
  | v :: l => match xcat v with
    | 2 => some v :: none :: xlay l
    | _ => some v :: xlay l
def xpad : Nat → List (Option xV) → List (Option xV)
  | 0, _ => []
  | n + 1, [] => none :: xpad n []
  | n + 1, v :: l => v :: xpad n l
noncomputable def xfn (g : xS → Option xX) (nL : Nat) : xF := fun a M => match Nat.ble (xlay a).length nL with
  | true => xfix g (0, xpad nL (xlay a), [], M)
  | false => none
