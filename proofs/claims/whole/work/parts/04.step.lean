/-- one step, as a formula: k is what must hold behind it, Rt what must hold of an answer and its world, M what a call needs -/
def xs (d nL : Nat) (T : List (Nat × XE)) (F : List (Nat × XF)) (C : List (Nat × XK)) (M : XI → List Value → List va_E → (Option Value → List va_E → Prop) → Prop) (ret : Option FieldType) (Rt : Option Value → List va_E → Prop)
    (k : Nat → List (Nat × Value) → List Value → List va_E → Prop) (pc : Nat) (ls : List (Nat × Value)) (st : List Value) (w : List va_E) : Prop :=
  match xfind T pc with
  | (ins, nxt, tgt, cst, sw) => match ins with
    | .iconst _ => k nxt ls (.int cst :: st) w
    | .bipush _ => k nxt ls (.int cst :: st) w
    | .sipush _ => k nxt ls (.int cst :: st) w
    | .iload_n i => xli ls i (fun x => k nxt ls (.int x :: st) w)
    | .iload i => xli ls i (fun x => k nxt ls (.int x :: st) w)
    | .lload_n i => xll ls i (fun x => k nxt ls (.long x :: st) w)
    | .lload i => xll ls i (fun x => k nxt ls (.long x :: st) w)
    | .aload_n i => xlr ls i (fun x => k nxt ls (.ref x :: st) w)
    | .aload i => xlr ls i (fun x => k nxt ls (.ref x :: st) w)
    | .istore_n i => x1i st (fun x r => bif Nat.blt i nL then k nxt ((i.val, .int x) :: xr i false ls) r w else False)
    | .istore i => x1i st (fun x r => bif Nat.blt i nL then k nxt ((i, .int x) :: xr i false ls) r w else False)
    | .lstore_n i => x1l st (fun x r => bif Nat.blt (i + 1) nL then k nxt ((i.val, .long x) :: xr i true ls) r w else False)
    | .lstore i => x1l st (fun x r => bif Nat.blt (i + 1) nL then k nxt ((i, .long x) :: xr i true ls) r w else False)
    | .astore_n i => x1r st (fun x r => bif Nat.blt i nL then k nxt ((i.val, .ref x) :: xr i false ls) r w else False)
    | .astore i => x1r st (fun x r => bif Nat.blt i nL then k nxt ((i, .ref x) :: xr i false ls) r w else False)
    | .iinc i _ => xli ls i (fun x => bif Nat.blt i nL then k nxt ((i, .int (x + cst)) :: xr i false ls) st w else False)
    | .iadd => x1i st (fun y r => x1i r (fun x r => k nxt ls (.int (x + y) :: r) w))
    | .isub => x1i st (fun y r => x1i r (fun x r => k nxt ls (.int (x - y) :: r) w))
    | .imul => x1i st (fun y r => x1i r (fun x r => k nxt ls (.int (x * y) :: r) w))
    | .iand => x1i st (fun y r => x1i r (fun x r => k nxt ls (.int (x &&& y) :: r) w))
    | .ior => x1i st (fun y r => x1i r (fun x r => k nxt ls (.int (x ||| y) :: r) w))
    | .ixor => x1i st (fun y r => x1i r (fun x r => k nxt ls (.int (x ^^^ y) :: r) w))
    | .ishl => x1i st (fun y r => x1i r (fun x r => k nxt ls (.int (x <<< (y &&& 31)) :: r) w))
    | .ishr => x1i st (fun y r => x1i r (fun x r => k nxt ls (.int (x >>> (y &&& 31)) :: r) w))
    | .iushr => x1i st (fun y r => x1i r (fun x r => k nxt ls (.int (x.toUInt32 >>> (y.toUInt32 &&& Int32.toUInt32 31)).toInt32 :: r) w))
    | .ineg => x1i st (fun x r => k nxt ls (.int (-x) :: r) w)
    | .land => x1l st (fun y r => x1l r (fun x r => k nxt ls (.long (x &&& y) :: r) w))
    | .lor => x1l st (fun y r => x1l r (fun x r => k nxt ls (.long (x ||| y) :: r) w))
    | .lushr => x1i st (fun y r => x1l r (fun x r => k nxt ls (.long (x.toUInt64 >>> (y.toInt64.toUInt64 &&& Int64.toUInt64 63)).toInt64 :: r) w))
    | .lshl => x1i st (fun y r => x1l r (fun x r => k nxt ls (.long (x <<< (y.toInt64 &&& 63)) :: r) w))
    | .lshr => x1i st (fun y r => x1l r (fun x r => k nxt ls (.long (x >>> (y.toInt64 &&& 63)) :: r) w))
    | .i2l => x1i st (fun x r => k nxt ls (.long x.toInt64 :: r) w)
    | .l2i => x1l st (fun x r => k nxt ls (.int x.toInt32 :: r) w)
    | .i2c => x1i st (fun x r => k nxt ls (.int (x.toUInt32 % 65536).toInt32 :: r) w)
    | .dup => x1v st (fun v r => bif xc2 v then False else k nxt ls (v :: v :: r) w)
    | .pop => x1v st (fun v r => bif xc2 v then False else k nxt ls r w)
    | .dup_x1 => x1v st (fun v r => x1v r (fun u r => bif xc2 v || xc2 u then False else k nxt ls (v :: u :: v :: r) w))
    | .dup2 => x1v st (fun v r => x1v r (fun u r => bif xc2 v || xc2 u then False else k nxt ls (v :: u :: v :: u :: r) w))
    | .ifCond c _ => x1i st (fun x r => xcmp c x 0 (k tgt ls r w) (k nxt ls r w))
    | .if_icmp c _ => x1i st (fun y r => x1i r (fun x r => xcmp c x y (k tgt ls r w) (k nxt ls r w)))
    | .goto _ => k tgt ls st w
    | .tableswitch _ _ _ _ => x1i st (fun x r => xsw x (fun t => k t ls r w) sw tgt)
    | .getfield idx => x1r st (fun i r => xlk F idx (fun f => xob w i f.1 (fun fs => xop fs f.2.1 (fun v => k nxt ls (v :: r) w))))
    | .putfield idx => x1v st (fun v r => x1r r (fun i r => xlk F idx (fun f => xob w i f.1 (fun fs => xfit f.2.2.1 v ∧ (bif f.2.2.2 && Nat.blt f.2.1 fs.length then k nxt ls r (xu w i (.inr (f.1, xu fs f.2.1 v))) else False)))))
    | .iaload => x1i st (fun j r => x1r r (fun i r => xar w i 0 (fun n a => vp_in j n ∧ k nxt ls (.int (a j.toNatClampNeg) :: r) w)))
    | .caload => x1i st (fun j r => x1r r (fun i r => xar w i 1 (fun n a => vp_in j n ∧ k nxt ls (.int (a j.toNatClampNeg) :: r) w)))
    | .baload => x1i st (fun j r => x1r r (fun i r => xar w i 2 (fun n a => vp_in j n ∧ k nxt ls (.int (a j.toNatClampNeg) :: r) w)))
    | .iastore => x1i st (fun x r => x1i r (fun j r => x1r r (fun i r => xar w i 0 (fun n a => vp_in j n ∧ k nxt ls r (xu w i (.inl (0, n, .inl (upd a j.toNatClampNeg x))))))))
    | .castore => x1i st (fun x r => x1i r (fun j r => x1r r (fun i r => xar w i 1 (fun n a => vp_in j n ∧ k nxt ls r (xu w i (.inl (1, n, .inl (upd a j.toNatClampNeg (vp_nar .char x)))))))))
    | .bastore => x1i st (fun x r => x1i r (fun j r => x1r r (fun i r => xar w i 2 (fun n a => vp_in j n ∧ k nxt ls r (xu w i (.inl (2, n, .inl (upd a j.toNatClampNeg (vp_nar .boolean x)))))))))
    | .arraylength => x1r st (fun i r => xar w i 0 (fun n _ => k nxt ls (.int (Int32.ofNat n) :: r) w))
    | .invokestatic idx => xlk C idx (fun q => bif q.2.1 then False else bif Nat.beq q.2.2.2 99 then (bif Nat.blt 0 d then x1i st (fun y r => x1i r (fun x r => bif Nat.ble (xct r) 8 then k nxt ls (.int (if y < x then y else x) :: r) w else False)) else False) else xtk q.2.2.1 [] st (fun as r => bif Nat.ble (xct r) 8 then M q.1 as w (fun v w' => k nxt ls (v.toList ++ r) w') else False))
    | .invokevirtual idx => xlk C idx (fun q => bif q.2.1 then xtk q.2.2.1 [] st (fun as r => x1r r (fun i r => bif Nat.ble (xct r) 8 then xob w i q.2.2.2 (fun _ => M q.1 (.ref i :: as) w (fun v w' => k nxt ls (v.toList ++ r) w')) else False)) else False)
    | .ireturn => x1i st (fun x r => match r with | [] => xret ret (.int x) ∧ Rt (some (.int x)) w | _ => False)
    | .areturn => x1r st (fun x r => match r with | [] => xret ret (.ref x) ∧ Rt (some (.ref x)) w | _ => False)
    | .return_ => (match st with | [] => ret = none ∧ Rt none w | _ => False)
    | _ => False
def xb (d nL : Nat) (T : List (Nat × XE)) (F : List (Nat × XF)) (C : List (Nat × XK)) (M : XI → List Value → List va_E → (Option Value → List va_E → Prop) → Prop) (ret : Option FieldType) (Rt : Option Value → List va_E → Prop) (stop : List (Nat × List Nat))
    (K : Nat → List (Nat × Value) → List Value → List va_E → Prop) : Nat → Nat → List (Nat × Value) → List Value → List va_E → Prop
  | 0, pc, ls, st, w => K pc ls st w
  | n + 1, pc, ls, st, w => match xlook stop pc with
    | some keys => K pc (xk ls keys) st w
    | none => xs d nL T F C M ret Rt (xb d nL T F C M ret Rt stop K n) pc ls st w
-- what it means over the machine
def XQ (D : va_G) (tc : Nat → ClassId) (ad : Nat → Nat) (A : Nat → Prop) (Rt : Option Value → List va_E → Prop) : Array Value → State → Outcome → State → Prop := fun _ st oc t =>
  ∃ (r : Option Value) (w : List va_E), Rt r w ∧ oc = .returned (r.map (xv ad)) ∧ va_P D vwCl (xz tc ad 0 w) t.heap ∧ va_D A (xz tc ad 0 w) ∧ va_K D vwCl (xt tc) t ∧ va_F A st t
/-- the method q, called with 'as' in the world w, answers r and leaves the world w' -/
def XMet (l : Launch) (d : Nat) (q : XI) (as : List Value) (w : List va_E) (r : Option Value) (w' : List va_E) : Prop :=
  ∀ (D : va_G) (tc : Nat → ClassId) (ad : Nat → Nat) (sz : Nat), Met l q.1 (xW q) (xR d)
    (va_Pc (as.map (xv ad)) (fun U => U.heap.size = sz ∧ va_P D vwCl (xz tc ad 0 w) U.heap ∧ va_K D vwCl (xt tc) U ∧ va_D (fun _ => True) (xz tc ad 0 w)))
    (XQ D tc ad (va_A (xz tc ad 0 w) sz) (fun a b => a = r ∧ b = w')) 0 0 (va_A (xz tc ad 0 w) sz)
def xM (l : Launch) (d : Nat) : XI → List Value → List va_E → (Option Value → List va_E → Prop) → Prop := fun q as w post => ∃ (d' : Nat) (r : Option Value) (w' : List va_E), d' < d ∧ XMet l d' q as w r w' ∧ post r w'
def XC (q : XI) (p : Program) (s : State) (m : MethodId) (args : Array Value) (meth : Method) (c : Code) : Prop :=
  p.tables.exec = Jvm.exec ∧ c.code = q.2.1 ∧ c.maxLocals = q.2.2.1 ∧ s.vm.findClass q.1.cls = some m.cls ∧ (∀ w ∈ wsG, w.before args s = true) ∧ meth.sig.returnType = q.2.2.2 ∧ meth.locks = false
/-- from here on, the method q returns, its answer and its world as Rt says -/
def XW (l : Launch) (d : Nat) (q : XI) (Rt : Option Value → List va_E → Prop) (pc : Nat) (ls : List (Nat × Value)) (st : List Value) (w : List va_E) : Prop :=
  ∀ (p : Program) (e : Env) (s : State) (m : MethodId) (args : Array Value) (below : List Frame) (meth : Method) (c : Code) (D : va_G) (tc : Nat → ClassId) (ad : Nat → Nat) (A : Nat → Prop) (H : Heap) (locs : List Loc) (la : Array Slot),
    XC q p s m args meth c → va_K D vwCl (xt tc) s → (∀ z, s.heap.size ≤ z → A z) → va_P D vwCl (xz tc ad 0 w) H → va_D A (xz tc ad 0 w) → va_S A s.heap H locs → lv_has la q.2.2.1 (xlm ad ls) →
    W p l e (xR d) s m args below meth c H locs 0 0 (MQ below (XQ D tc ad A Rt) args s 0 0 A) (F0 m pc la (st.map (xv ad)))
def xfok (own : String) (idx : Nat) (f : XF) : Prop := ∃ (C : String) (U : u_T) (N : Nat), vwCl[f.1]? = some (C, U, N) ∧ f.2.1 < N ∧ parseFieldDescriptor (U f.2.1).2.2.1 = some f.2.2.1 ∧ (f.2.2.2 = true → (U f.2.1).2.2.2 = false) ∧ Cond.fieldLink own idx (U f.2.1).1 (U f.2.1).2.1 (U f.2.1).2.2.1 ∈ wsG
def xcok (own : String) (idx : Nat) (q : XK) : Prop := Cond.code q.1.1 q.1.2.1 q.1.2.2.1 q.1.2.2.2 ∈ wsG ∧ Cond.initialized q.1.1.cls ∈ wsG ∧ (q.1.1.cls ≠ "java/lang/invoke/MethodHandle" ∧ q.1.1.cls ≠ "java/lang/invoke/VarHandle" ∧ (parseMethodDescriptor q.1.1.desc).map (fun d => d.parameters.length) = some q.2.2.1) ∧ q.1.2.2.1 ≤ 21 ∧ Cond.methodLink own idx q.1.1 ∈ wsG ∧
  (match q.2.1 with
    | false => Cond.static q.1.1 ∈ wsG ∧ (q.2.2.2 = 99 → q.1 = (Lib.Math.min.name, Lib.Math.min.code, 2, some .int))
    | true => Cond.instanceMethod q.1.1 ∈ wsG ∧ Cond.selects q.1.1.cls q.1.1 q.1.1 ∈ wsG ∧ ∃ (U : u_T) (N : Nat), vwCl[q.2.2.2]? = some (q.1.1.cls, U, N))
def XOk (q : XI) (T : List (Nat × XE)) (F : List (Nat × XF)) (C : List (Nat × XK)) : Prop :=
  T.all (fun e => xgood q.2.1 e.1 e.2) = true ∧ (∀ e ∈ F, xfok q.1.cls e.1 e.2) ∧ (∀ e ∈ C, xcok q.1.cls e.1 e.2)
/-- what is known of every class of the worlds -/
def XCls : Prop := ∀ (ci : Nat) (C : String) (U : u_T) (N : Nat), vwCl[ci]? = some (C, U, N) → (∀ w ∈ u_ws C U N, w ∈ wsG) ∧ (∀ a, a < N → ∀ b, b < N → a ≠ b → (U a).2.1 ≠ (U b).2.1) ∧ ∃ ty0 : Nat → FieldType, ∀ k, k < N → parseFieldDescriptor (U k).2.2.1 = some (ty0 k)
