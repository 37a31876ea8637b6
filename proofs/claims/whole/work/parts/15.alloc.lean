/-! The constructors: a small machine that makes cells; places are counted from a base on -/
abbrev yK : Type := Nat × Nat × List (Option xV)
abbrev yF : Type := List xV → List yK → Option (List yK)
def yE : xE := (fun _ => (9, 0), fkX, fun r _ => r, fun _ => 1000000)
def yad (b : Nat) : xAd := fun r => b + r.2
def ybd (k : Nat) : Option xV := match k with
  | 2 => none
  | _ => some (.inl 0)
def ybl (ci : Nat) : List (Option xV) := (fkX ci).map ybd
def yty (a : ArrayType) : Nat := match a with
  | .int => 1
  | .long => 2
  | .byte => 3
  | .boolean => 4
  | _ => 9
def ydf (c : Nat) : Option xV := match c with
  | 2 => some (.inr (.inl 0))
  | 5 => none
  | _ => some (.inl 0)
abbrev yX : Type := List yK × Nat × Nat
def yex (ft : List (Nat × Nat × Nat × Nat)) (nt : List (Nat × Nat)) (ct : List (Nat × Nat × Nat × Nat × yF)) (oi : Nat) (K : Nat → List (Option xV) → List xV → List yK → Nat → Nat → Option yX) (pc : Nat) (i : Instr) (x : xA) (L : List (Option xV)) (S : List xV) (m : List yK) (uc us : Nat) : Option yX :=
  match i with
  | .iconst _ => match x with
    | .inr (.inl c) => K (pc + 1) L (.inl c :: S) m uc us
    | _ => none
  | .bipush _ => match x with
    | .inr (.inl c) => K (pc + 2) L (.inl c :: S) m uc us
    | _ => none
  | .sipush _ => match x with
    | .inr (.inl c) => K (pc + 3) L (.inl c :: S) m uc us
    | _ => none
  | .aload_n n => match L[n.val]? with
    | some (some (.inr (.inr r))) => K (pc + 1) L (.inr (.inr r) :: S) m uc us
    | _ => none
  | .iload_n n => match L[n.val]? with
    | some (some (.inl v)) => K (pc + 1) L (.inl v :: S) m uc us
    | _ => none
  | .istore_n n => match S with
    | .inl v :: S => match Nat.blt n.val L.length && L.all (fun q => match q with
      | some (.inr (.inl _)) => false
      | _ => true) with
      | true => K (pc + 1) (L.set n.val (some (.inl v))) S m uc us
      | false => none
    | _ => none
  | .iinc n _ => match x with
    | .inr (.inl c) => match L[n]? with
      | some (some (.inl v)) => match L.all (fun q => match q with
        | some (.inr (.inl _)) => false
        | _ => true) with
        | true => K (pc + 3) (L.set n (some (.inl (v + c)))) S m uc us
        | false => none
      | _ => none
    | _ => none
  | .dup => match S with
    | .inr (.inr r) :: S => K (pc + 1) L (.inr (.inr r) :: .inr (.inr r) :: S) m uc us
    | _ => none
  | .goto _ => match x with
    | .inl a => K a L S m uc us
    | _ => none
  | .if_icmp .ge _ => match x with
    | .inl t => match S with
      | .inl b :: .inl a :: S => if b ≤ a then K t L S m uc us else K (pc + 3) L S m uc us
      | _ => none
    | _ => none
  | .new idx => match xlk nt idx with
    | some ci => match Nat.blt 0 uc && Nat.ble (fkX ci).length us && Nat.blt m.length 1000000 with
      | true => K (pc + 3) L (.inr (.inr (0, m.length)) :: S) (m ++ [(0, ci, ybl ci)]) (uc - 1) (us - (fkX ci).length)
      | false => none
    | none => none
  | .newarray ty => match S with
    | .inl n :: S => match Nat.blt 0 uc && Nat.ble n.toNatClampNeg us && Nat.blt m.length 1000000 && decide (0 ≤ n) && Nat.ble n.toNatClampNeg 10000 && Nat.ble (yty ty) 4 with
      | true => K (pc + 2) L (.inr (.inr (0, m.length)) :: S) (m ++ [(yty ty, n.toNatClampNeg, List.replicate n.toNatClampNeg (ydf (yty ty)))]) (uc - 1) (us - n.toNatClampNeg)
      | false => none
    | _ => none
  | .anewarray idx => match S with
    | .inl n :: S => match xlk nt idx with
      | some 6 => match Nat.blt 0 uc && Nat.ble n.toNatClampNeg us && Nat.blt m.length 1000000 && decide (0 ≤ n) && Nat.ble n.toNatClampNeg 10000 with
        | true => K (pc + 3) L (.inr (.inr (0, m.length)) :: S) (m ++ [(5, n.toNatClampNeg, List.replicate n.toNatClampNeg none)]) (uc - 1) (us - n.toNatClampNeg)
        | false => none
      | _ => none
    | _ => none
  | .getfield idx => match S with
    | .inr (.inr r) :: S => match xlk ft idx with
      | some (ci, f, _) => match m[r.2]? with
        | some (0, cj, vs) => match Nat.beq ci cj with
          | true => match vs[f]? with
            | some (some (.inr (.inr a))) => match Nat.blt a.2 1000000 with
              | true => K (pc + 3) L (.inr (.inr a) :: S) m uc us
              | false => none
            | _ => none
          | false => none
        | _ => none
      | none => none
    | _ => none
  | .putfield idx => match S with
    | v :: .inr (.inr r) :: S => match xlk ft idx with
      | some (ci, f, kk) => match m[r.2]? with
        | some (0, cj, vs) => match Nat.beq ci cj && Nat.blt f vs.length && (match kk, v with
          | 0, .inl _ => true
          | 2, .inr (.inr _) => true
          | 3, .inl c => decide (c = 0) || decide (c = 1)
          | _, _ => false) with
          | true => K (pc + 3) L S (m.set r.2 (0, cj, vs.set f (some v))) uc us
          | false => none
        | _ => none
      | none => none
    | _ => none
  | .iastore => match S with
    | .inl v :: .inl j :: .inr (.inr r) :: S => match m[r.2]? with
      | some (1, n, vs) => match decide (0 ≤ j) && Nat.blt j.toNatClampNeg n && Nat.beq vs.length n with
        | true => K (pc + 1) L S (m.set r.2 (1, n, vs.set j.toNatClampNeg (some (.inl v)))) uc us
        | false => none
      | _ => none
    | _ => none
  | .aastore => match S with
    | .inr (.inr v) :: .inl j :: .inr (.inr r) :: S => match m[r.2]?, m[v.2]? with
      | some (5, n, vs), some (0, 6, _) => match decide (0 ≤ j) && Nat.blt j.toNatClampNeg n && Nat.beq vs.length n with
        | true => K (pc + 1) L S (m.set r.2 (5, n, vs.set j.toNatClampNeg (some (.inr (.inr v))))) uc us
        | false => none
      | _, _ => none
    | _ => none
  | .invokespecial idx => match Nat.beq idx oi with
    | true => match S with
      | .inr (.inr _) :: S => match Nat.ble (xcats S) 8 with
        | true => K (pc + 3) L S m uc us
        | false => none
      | _ => none
    | false => match xlk ct idx with
      | some (n, mc, ms, f) => match xtake n S [] with
        | some (As, S') => match Nat.ble (xcats S') 8 && Nat.ble mc uc && Nat.ble ms us && (match As with
          | .inr (.inr _) :: _ => true
          | _ => false) with
          | true => match f As m with
            | some m' => K (pc + 3) L S' m' (uc - mc) (us - ms)
            | none => none
          | false => none
        | none => none
      | none => none
  | .return_ => match S with
    | [] => some (m, uc, us)
    | _ => none
  | _ => none
def yo (ft : List (Nat × Nat × Nat × Nat)) (nt : List (Nat × Nat)) (ct : List (Nat × Nat × Nat × Nat × yF)) (oi : Nat) (B : xT) : Nat → List (Nat × Instr × xA) → List (Option xV) → List xV → List yK → Nat → Nat → Option yX
  | 0, _, _, _, _, _, _ => none
  | _ + 1, [], _, _, _, _, _ => none
  | n + 1, (pc, i, x) :: is, L, S, m, uc, us => yex ft nt ct oi (fun pc L S m uc us => match xnx is pc with
    | true => yo ft nt ct oi B n is L S m uc us
    | false => match xlk B pc with
      | some (_, is) => yo ft nt ct oi B n is L S m uc us
      | none => none) pc i x L S m uc us
def yfn (ft : List (Nat × Nat × Nat × Nat)) (nt : List (Nat × Nat)) (ct : List (Nat × Nat × Nat × Nat × yF)) (oi : Nat) (B : xT) (n nL mc ms : Nat) : yF := fun a m => match Nat.ble (xlay a).length nL with
  | true => match xlk B 0 with
    | some (_, is) => match yo ft nt ct oi B n is (xpad nL (xlay a)) [] m mc ms with
      | some (m', _, _) => some m'
      | none => none
    | none => none
  | false => none
-- worlds under construction
def yc (b : Nat) : Option xV → Value
  | none => .null
  | some v => xc (yad b) v
def yAt (b : Nat) (D : xD) (a : Nat) (k : yK) (H : Heap) : Prop := match k.1 with
  | 0 => ∃ q : vw_C, vwCl[k.2.1]? = some q ∧ k.2.2.length = q.2.2 ∧ t_OB a (D.1 k.2.1) q.2.2 (D.2.1 k.2.1) H (fun f => yc b (k.2.2.getD f none))
  | c => H[a]? = some (arrV (D.2.2 c) k.2.1 (fun j => yc b (k.2.2.getD j (ydf c)))) ∧ k.2.2.length = k.2.1
def yH (b : Nat) (D : xD) (m : List yK) (H : Heap) : Prop := H.size = b + m.length ∧ ∀ (i : Nat) (k : yK), m[i]? = some k → yAt b D (b + i) k H
def yFr (b : Nat) (H0 H : Heap) (locs : List Loc) : Prop := H0.size ≤ H.size ∧ b ≤ H0.size ∧ (∀ q : Nat, q < b → H[q]? = H0[q]?) ∧ ∀ l ∈ locs, b ≤ l.base
def yAr (U : State) (D : xD) (c : Nat) (ty : FieldType) : Prop := ArrOfT U (D.2.2 c) ty ∧ va_RA U (D.2.2 c) ty
def yEn (D : xD) (U : State) : Prop := (∀ (c : Nat) (q : vw_C), vwCl[c]? = some q → u_Kn U q.1 q.2.1 q.2.2 (D.1 c) (D.2.1 c)) ∧ (yAr U D 1 .int ∧ yAr U D 2 .long ∧ yAr U D 3 .byte ∧ yAr U D 4 .boolean ∧ yAr U D 5 (.object RX6)) ∧ (∀ w ∈ xNw, va_Nw w U) ∧ va_AO RX6 U
def yrm (d mc ms : Nat) : Room := { frames := d, cells := mc, slots := ms, locals := 60 * d }
def yCx (D : xD) (p : Program) (s : State) (m : MethodId) (args : Array Value) (meth : Method) (c : Code) (cc : ByteArray) (nL : Nat) (own : String) : Prop :=
  p.tables.exec = Jvm.exec ∧ c.code = cc ∧ c.maxLocals = nL ∧ s.vm.findClass own = some m.cls ∧ (∀ w ∈ xTB, w.before args s = true) ∧ meth.locks = false ∧ meth.name = "<init>" ∧ meth.sig.returnType = none ∧ yEn D s
def yPo (D : xD) (b : Nat) (m' : List yK) : Array Value → State → Outcome → State → Prop := fun _ st o t => o = .returned none ∧ yH b D m' t.heap ∧ st.heap.size ≤ t.heap.size ∧ ∀ q : Nat, q < b → t.heap[q]? = st.heap[q]?
def yC (D : xD) (y : MethodName) (cc : ByteArray) (nL d mc ms : Nat) (f : yF) : Prop :=
  ∀ (l : Launch) (b : Nat) (As : List xV) (m m' : List yK), f As m = some m' → (∀ v ∈ As, xok yE v) →
    Met l y (.code y cc nL none :: xTB) (yrm d mc ms) (fun v U => v = (As.map (xc (yad b))).toArray ∧ yEn D U ∧ yH b D m U.heap) (yPo D b m') mc ms (fun q => b ≤ q)
def yWf (D : xD) (b : Nat) (p : Program) (l : Launch) (e : Env) (d mc ms : Nat) (s : State) (m : MethodId) (args : Array Value) (below : List Frame) (meth : Method) (c : Code) (nL : Nat) (Q : State → Prop) (pc : Nat) (L : List (Option xV)) (S : List xV) (mem : List yK) (uc us : Nat) : Prop :=
  uc ≤ mc → us ≤ ms → ∀ (H : Heap) (locs : List Loc) (ls : Array Slot), yH b D mem H → yFr b s.heap H locs → xlv yE (yad b) ls nL L → (∀ v ∈ S, xok yE v) → W p l e (yrm d mc ms) s m args below meth c H locs (mc - uc) (ms - us) Q (F0 m pc ls (S.map (xc (yad b))))
/-- a call of a constructor -/
def yco (D : xD) (own : String) (d : Nat) (q : Nat × Nat × Nat × Nat × yF) : Prop :=
  ∀ (p : Program) (l : Launch) (e : Env) (mc ms : Nat) (s : State) (m : MethodId) (args : Array Value) (below : List Frame) (meth : Method) (c : Code) (cc : ByteArray) (nL : Nat) (Q : State → Prop) (b pc : Nat) (L : List (Option xV)) (S As : List xV) (mem mem' : List yK) (uc us : Nat),
    yCx D p s m args meth c cc nL own → decode cc pc = .ok (.invokespecial q.1, 3) → q.2.2.2.2 As mem = some mem' → As.length = q.2.1 → (∃ r As', As = .inr (.inr r) :: As') → xcats S ≤ 8 → q.2.2.1 ≤ uc → q.2.2.2.1 ≤ us →
    yWf D b p l e d mc ms s m args below meth c nL Q (pc + 3) L S mem' (uc - q.2.2.1) (us - q.2.2.2.1) → yWf D b p l e d mc ms s m args below meth c nL Q pc L (As.reverse ++ S) mem uc us
def ynt (own : String) (q : Nat × Nat) : Prop := ∃ (C : String) (T : u_T) (N : Nat), vwCl[q.2]? = some (C, T, N) ∧ Cond.classLink own q.1 C ∈ xTB ∧ (Cond.instantiable C N ∈ xTB ∧ Cond.initialized C ∈ xTB) ∧ (fkX q.2).length = N
/-- a field as a constructor may write it: final ones too, of its own class -/
def yfo (own : String) (q : Nat × Nat × Nat × Nat) : Prop := ∃ (C : String) (T : u_T) (N : Nat), vwCl[q.2.1]? = some (C, T, N) ∧ q.2.2.1 < N ∧ Cond.fieldLink own q.1 C (T q.2.2.1).2.1 (T q.2.2.1).2.2.1 ∈ xTB ∧ (fkX q.2.1)[q.2.2.1]? = some q.2.2.2 ∧ (T q.2.2.1).1 = C ∧ C = own
