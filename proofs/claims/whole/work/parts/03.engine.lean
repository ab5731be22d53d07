/-! The engine: a picture of the machine whose cells are numbered, a step of it as a formula, and its soundness. -/
def wsG : List Cond := lw_tbl.filter goodWord
theorem wsG_in {w : Cond} (h : w ∈ lw_tbl) (g : goodWord w = true) : w ∈ wsG := List.mem_filter.mpr ⟨h, g⟩
theorem wsG_good {w : Cond} (h : w ∈ wsG) : (w.onTables && w.keeps) = true ∨ ∃ ty, w = .arrayClass ty := good_of_word (List.mem_filter.mp h).2
abbrev XI : Type := MethodName × ByteArray × Nat × Option FieldType
def xW (q : XI) : List Cond := .code q.1 q.2.1 q.2.2.1 q.2.2.2 :: wsG
def xR (d : Nat) : Room := { frames := d, cells := 0, slots := 0, locals := 40 * d }
-- values, cells, worlds: .ref i is the cell of number i
def xv (ad : Nat → Nat) : Value → Value
  | .ref i => .ref (ad i)
  | v => v
theorem xv_cat (ad : Nat → Nat) (v : Value) : (xv ad v).category = v.category := by cases v <;> rfl
def xa (ad : Nat → Nat) (a : vp_A) : vp_A := (a.1, match a.2 with
  | .inr (.inr (.inr (.inr g))) => .inr (.inr (.inr (.inr (fun j => (g j).map ad))))
  | f => f)
def xe (tc : Nat → ClassId) (ad : Nat → Nat) : va_E → va_E
  | .inl (t, a) => .inl (tc t, xa ad a)
  | .inr (c, fs) => .inr (c, fs.map (xv ad))
def xz (tc : Nat → ClassId) (ad : Nat → Nat) : Nat → List va_E → va_W
  | _, [] => []
  | i, e :: r => (ad i, xe tc ad e) :: xz tc ad (i + 1) r
theorem xz_get (tc : Nat → ClassId) (ad : Nat → Nat) : ∀ (w : List va_E) (i k : Nat), (xz tc ad i w)[k]? = (w[k]?).map (fun e => (ad (i + k), xe tc ad e))
  | [], i, k => by simp [xz]
  | e :: r, i, 0 => by simp [xz]
  | e :: r, i, k + 1 => by
    show (xz tc ad (i + 1) r)[k]? = _
    rw [xz_get tc ad r (i + 1) k, List.getElem?_cons_succ, show i + 1 + k = i + (k + 1) by omega]
theorem xz_set (tc : Nat → ClassId) (ad : Nat → Nat) : ∀ (w : List va_E) (i k : Nat) (e : va_E), (xz tc ad i w).set k (ad (i + k), xe tc ad e) = xz tc ad i (w.set k e)
  | [], i, k, e => by simp [xz]
  | a :: r, i, 0, e => by simp [xz]
  | a :: r, i, k + 1, e => by
    show (ad i, xe tc ad a) :: (xz tc ad (i + 1) r).set k (ad (i + (k + 1)), xe tc ad e) = (ad i, xe tc ad a) :: xz tc ad (i + 1) (r.set k e)
    rw [← xz_set tc ad r (i + 1) k e, show i + 1 + k = i + (k + 1) by omega]
def xt (tc : Nat → ClassId) : List (ClassId × FieldType) := [(tc 0, .int), (tc 1, .char), (tc 2, .boolean)]
def xlm (ad : Nat → Nat) (ls : List (Nat × Value)) : List (Nat × Value) := ls.map (fun q => (q.1, xv ad q.2))
-- small lists that reduce well
def xn {α : Type} : List α → Nat → Option α
  | [], _ => none
  | a :: _, 0 => some a
  | _ :: r, i + 1 => xn r i
theorem xn_eq {α : Type} : ∀ (l : List α) (i : Nat), xn l i = l[i]?
  | [], i => by simp [xn]
  | a :: r, 0 => by simp [xn]
  | a :: r, i + 1 => by rw [xn, xn_eq r i, List.getElem?_cons_succ]
def xu {α : Type} : List α → Nat → α → List α
  | [], _, _ => []
  | _ :: r, 0, b => b :: r
  | a :: r, i + 1, b => a :: xu r i b
theorem xu_eq {α : Type} : ∀ (l : List α) (i : Nat) (b : α), xu l i b = l.set i b
  | [], i, b => by simp [xu]
  | a :: r, 0, b => by simp [xu]
  | a :: r, i + 1, b => by rw [xu, xu_eq r i b, List.set_cons_succ]
-- locals
def xg : List (Nat × Value) → Nat → Option Value
  | [], _ => none
  | (j, v) :: r, i => bif Nat.beq j i then some v else xg r i
theorem xg_mem : ∀ (ls : List (Nat × Value)) (i : Nat) (v : Value), xg ls i = some v → (i, v) ∈ ls
  | [], i, v, h => by cases h
  | (j, u) :: r, i, v, h => by
    rw [xg] at h
    cases hb : Nat.beq j i with
    | true =>
      rw [hb] at h
      have h1 : u = v := Option.some.inj h
      have h2 : j = i := Nat.eq_of_beq_eq_true hb
      subst h1; subst h2
      exact List.mem_cons_self
    | false =>
      rw [hb] at h
      exact List.mem_cons_of_mem _ (xg_mem r i v h)
def xc2 : Value → Bool
  | .long _ => true
  | .double _ => true
  | _ => false
theorem xc2_cat (v : Value) : xc2 v = (v.category == 2) := by cases v <;> rfl
def xr (i : Nat) (two : Bool) : List (Nat × Value) → List (Nat × Value)
  | [] => []
  | (j, u) :: r => bif Nat.beq j i || (two && Nat.beq j (i + 1)) || (xc2 u && Nat.beq (j + 1) i) then xr i two r else (j, u) :: xr i two r
theorem xr_mem (i : Nat) (two : Bool) : ∀ (ls : List (Nat × Value)) (q : Nat × Value), q ∈ xr i two ls → q ∈ ls ∧ ¬ q.1 = i ∧ (two = true → ¬ q.1 = i + 1) ∧ ¬ (q.1 + 1 = i ∧ q.2.category = 2)
  | [], q, h => by cases h
  | (j, u) :: r, q, h => by
    rw [xr] at h
    cases hb : (Nat.beq j i || (two && Nat.beq j (i + 1)) || (xc2 u && Nat.beq (j + 1) i)) with
    | true =>
      rw [hb] at h
      obtain ⟨h1, h2⟩ := xr_mem i two r q h
      exact ⟨List.mem_cons_of_mem _ h1, h2⟩
    | false =>
      rw [hb] at h
      rcases List.mem_cons.mp h with h | h
      · subst h
        simp only [Bool.or_eq_false_iff, Bool.and_eq_false_iff] at hb
        obtain ⟨⟨h1, h2⟩, h3⟩ := hb
        refine ⟨List.mem_cons_self, fun e => ?_, fun t e => ?_, fun e => ?_⟩
        · rw [show j = i from e, Nat.beq_refl] at h1; cases h1
        · rcases h2 with h2 | h2
          · rw [t] at h2; cases h2
          · rw [show j = i + 1 from e, Nat.beq_refl] at h2; cases h2
        · rcases h3 with h3 | h3
          · rw [xc2_cat, show u.category = 2 from e.2] at h3; cases h3
          · rw [show j + 1 = i from e.1, Nat.beq_refl] at h3; cases h3
      · obtain ⟨h1, h2⟩ := xr_mem i two r q h
        exact ⟨List.mem_cons_of_mem _ h1, h2⟩
def xk (ls : List (Nat × Value)) : List Nat → List (Nat × Value)
  | [] => []
  | i :: is => match xg ls i with
    | some v => (i, v) :: xk ls is
    | none => xk ls is
theorem xk_mem (ls : List (Nat × Value)) : ∀ (is : List Nat) (q : Nat × Value), q ∈ xk ls is → q ∈ ls
  | [], q, h => by cases h
  | i :: is, q, h => by
    rw [xk] at h
    cases hg : xg ls i with
    | some v =>
      rw [hg] at h
      rcases List.mem_cons.mp h with h | h
      · subst h; exact xg_mem ls i v hg
      · exact xk_mem ls is q h
    | none =>
      rw [hg] at h
      exact xk_mem ls is q h
-- shapes of the stack
def x1i (st : List Value) (f : Int32 → List Value → Prop) : Prop := match st with
  | .int x :: r => f x r
  | _ => False
theorem x1i_of {st : List Value} {f : Int32 → List Value → Prop} (h : x1i st f) : ∃ x r, st = .int x :: r ∧ f x r := by
  unfold x1i at h; split at h
  · exact ⟨_, _, rfl, h⟩
  · exact h.elim
def x1l (st : List Value) (f : Int64 → List Value → Prop) : Prop := match st with
  | .long x :: r => f x r
  | _ => False
theorem x1l_of {st : List Value} {f : Int64 → List Value → Prop} (h : x1l st f) : ∃ x r, st = .long x :: r ∧ f x r := by
  unfold x1l at h; split at h
  · exact ⟨_, _, rfl, h⟩
  · exact h.elim
def x1r (st : List Value) (f : Nat → List Value → Prop) : Prop := match st with
  | .ref x :: r => f x r
  | _ => False
theorem x1r_of {st : List Value} {f : Nat → List Value → Prop} (h : x1r st f) : ∃ x r, st = .ref x :: r ∧ f x r := by
  unfold x1r at h; split at h
  · exact ⟨_, _, rfl, h⟩
  · exact h.elim
def x1v (st : List Value) (f : Value → List Value → Prop) : Prop := match st with
  | v :: r => f v r
  | _ => False
theorem x1v_of {st : List Value} {f : Value → List Value → Prop} (h : x1v st f) : ∃ x r, st = x :: r ∧ f x r := by
  unfold x1v at h; split at h
  · exact ⟨_, _, rfl, h⟩
  · exact h.elim
def xli (ls : List (Nat × Value)) (i : Nat) (f : Int32 → Prop) : Prop := match xg ls i with
  | some (.int x) => f x
  | _ => False
theorem xli_of {ls : List (Nat × Value)} {i : Nat} {f : Int32 → Prop} (h : xli ls i f) : ∃ x, xg ls i = some (.int x) ∧ f x := by
  unfold xli at h; split at h
  · exact ⟨_, by assumption, h⟩
  · exact h.elim
def xll (ls : List (Nat × Value)) (i : Nat) (f : Int64 → Prop) : Prop := match xg ls i with
  | some (.long x) => f x
  | _ => False
theorem xll_of {ls : List (Nat × Value)} {i : Nat} {f : Int64 → Prop} (h : xll ls i f) : ∃ x, xg ls i = some (.long x) ∧ f x := by
  unfold xll at h; split at h
  · exact ⟨_, by assumption, h⟩
  · exact h.elim
def xlr (ls : List (Nat × Value)) (i : Nat) (f : Nat → Prop) : Prop := match xg ls i with
  | some (.ref x) => f x
  | _ => False
theorem xlr_of {ls : List (Nat × Value)} {i : Nat} {f : Nat → Prop} (h : xlr ls i f) : ∃ x, xg ls i = some (.ref x) ∧ f x := by
  unfold xlr at h; split at h
  · exact ⟨_, by assumption, h⟩
  · exact h.elim
/-- an object of the class of number ci: its fields -/
def xob (w : List va_E) (i ci : Nat) (f : List Value → Prop) : Prop := match xn w i with
  | some (.inr (c, fs)) => bif Nat.beq c ci then f fs else False
  | _ => False
theorem xob_of {w : List va_E} {i ci : Nat} {f : List Value → Prop} (h : xob w i ci f) : ∃ fs, w[i]? = some (.inr (ci, fs)) ∧ f fs := by
  unfold xob at h; split at h
  · rename_i c fs hw
    cases hb : Nat.beq c ci with
    | true =>
      rw [hb] at h
      have e := Nat.eq_of_beq_eq_true hb
      subst e
      exact ⟨fs, by rw [← xn_eq]; exact hw, h⟩
    | false => rw [hb] at h; exact h.elim
  · exact h.elim
/-- an array of ints (chars, booleans) of the kind t -/
def xar (w : List va_E) (i t : Nat) (f : Nat → (Nat → Int32) → Prop) : Prop := match xn w i with
  | some (.inl (c, n, .inl a)) => bif Nat.beq c t then f n a else False
  | _ => False
theorem xar_of {w : List va_E} {i t : Nat} {f : Nat → (Nat → Int32) → Prop} (h : xar w i t f) : ∃ n a, w[i]? = some (.inl (t, n, .inl a)) ∧ f n a := by
  unfold xar at h; split at h
  · rename_i c n a hw
    cases hb : Nat.beq c t with
    | true =>
      rw [hb] at h
      have e := Nat.eq_of_beq_eq_true hb
      subst e
      exact ⟨n, a, by rw [← xn_eq]; exact hw, h⟩
    | false => rw [hb] at h; exact h.elim
  · exact h.elim
def xop (l : List Value) (k : Nat) (f : Value → Prop) : Prop := match xn l k with
  | some v => f v
  | none => False
theorem xop_of {l : List Value} {k : Nat} {f : Value → Prop} (h : xop l k f) : ∃ v, l[k]? = some v ∧ f v := by
  unfold xop at h; split at h
  · rename_i v hv
    exact ⟨v, by rw [← xn_eq]; exact hv, h⟩
  · exact h.elim
-- calls: the arguments off the stack
def xtk : Nat → List Value → List Value → (List Value → List Value → Prop) → Prop
  | 0, acc, st, f => f acc st
  | n + 1, acc, st, f => match st with
    | v :: r => xtk n (v :: acc) r f
    | [] => False
theorem xtk_of : ∀ (n : Nat) (acc st : List Value) (f : List Value → List Value → Prop), xtk n acc st f → ∃ as r, st = as.reverse ++ r ∧ as.length = n ∧ f (as ++ acc) r
  | 0, acc, st, f, h => ⟨[], st, rfl, rfl, h⟩
  | n + 1, acc, [], f, h => h.elim
  | n + 1, acc, v :: r, f, h => by
    obtain ⟨as, r', e1, e2, h'⟩ := xtk_of n (v :: acc) r f h
    refine ⟨as ++ [v], r', by rw [e1]; simp, by simp [e2], by simpa using h'⟩
def xct : List Value → Nat
  | [] => 0
  | v :: r => (bif xc2 v then 2 else 1) + xct r
theorem xct_eq (ad : Nat → Nat) : ∀ st : List Value, ((st.map (xv ad)).map fun v => v.category).sum = xct st
  | [] => rfl
  | v :: r => by
    have h := xct_eq ad r
    simp only [List.map_cons, List.sum_cons, xct, h, xv_cat]
    cases v <;> rfl
def xfit (ty : FieldType) (v : Value) : Prop := match ty with
  | .int => (match v with | .int _ => True | _ => False)
  | .long => (match v with | .long _ => True | _ => False)
  | .boolean => (match v with | .int x => x = 0 ∨ x = 1 | _ => False)
  | .char => (match v with | .int x => narrow .char (.int x) = .int x ∧ fits .char (.int x) = true | _ => False)
  | .object _ => (match v with | .ref _ => True | _ => False)
  | .array _ => (match v with | .ref _ => True | _ => False)
  | _ => False
theorem xfit_of {ty : FieldType} {v : Value} (ad : Nat → Nat) (h : xfit ty v) : narrow ty (xv ad v) = xv ad v ∧ fits ty (xv ad v) = true := by
  unfold xfit at h
  split at h
  · split at h
    · exact ⟨rfl, rfl⟩
    · exact h.elim
  · split at h
    · exact ⟨rfl, rfl⟩
    · exact h.elim
  · split at h
    · rcases h with rfl | rfl <;> exact ⟨rfl, rfl⟩
    · exact h.elim
  · split at h
    · exact h
    · exact h.elim
  · split at h
    · exact ⟨rfl, rfl⟩
    · exact h.elim
  · split at h
    · exact ⟨rfl, rfl⟩
    · exact h.elim
  · exact h.elim
def xret (ret : Option FieldType) (v : Value) : Prop := match ret with
  | some ty => xfit ty v
  | none => False
theorem xret_of {ret : Option FieldType} {v : Value} (h : xret ret v) : ∃ ty, ret = some ty ∧ xfit ty v := by
  unfold xret at h; split at h
  · exact ⟨_, rfl, h⟩
  · exact h.elim
-- an instruction of the table: what it is, where the next one stands, where it jumps to, its constant, its cases
abbrev XE : Type := Instr × Nat × Nat × Int32 × List (Int32 × Nat)
abbrev XF : Type := Nat × Nat × FieldType × Bool
abbrev XK : Type := XI × Bool × Nat × Nat
def xfind : List (Nat × XE) → Nat → XE
  | [], _ => (.nop, 0, 0, 0, [])
  | (j, e) :: r, i => bif Nat.beq j i then e else xfind r i
theorem xfind_in : ∀ (T : List (Nat × XE)) (i : Nat), xfind T i = (.nop, 0, 0, 0, []) ∨ (i, xfind T i) ∈ T
  | [], i => Or.inl rfl
  | (j, e) :: r, i => by
    rw [xfind]
    cases hb : Nat.beq j i with
    | true =>
      have h2 : j = i := Nat.eq_of_beq_eq_true hb
      subst h2
      exact Or.inr List.mem_cons_self
    | false =>
      rcases xfind_in r i with h | h
      · exact Or.inl h
      · exact Or.inr (List.mem_cons_of_mem _ h)
def xlook {α : Type} : List (Nat × α) → Nat → Option α
  | [], _ => none
  | (j, e) :: r, i => bif Nat.beq j i then some e else xlook r i
theorem xlook_in {α : Type} : ∀ (T : List (Nat × α)) (i : Nat) (a : α), xlook T i = some a → (i, a) ∈ T
  | [], i, a, h => by cases h
  | (j, e) :: r, i, a, h => by
    rw [xlook] at h
    cases hb : Nat.beq j i with
    | true =>
      rw [hb] at h
      have h2 : j = i := Nat.eq_of_beq_eq_true hb
      have h1 : e = a := Option.some.inj h
      subst h2; subst h1
      exact List.mem_cons_self
    | false =>
      rw [hb] at h
      exact List.mem_cons_of_mem _ (xlook_in r i a h)
def xlk {α : Type} (T : List (Nat × α)) (i : Nat) (f : α → Prop) : Prop := match xlook T i with
  | some a => f a
  | none => False
theorem xlk_of {α : Type} {T : List (Nat × α)} {i : Nat} {f : α → Prop} (h : xlk T i f) : ∃ a, (i, a) ∈ T ∧ f a := by
  unfold xlk at h; split at h
  · rename_i a ha
    exact ⟨a, xlook_in T i a ha, h⟩
  · exact h.elim
def xsw (x : Int32) (k : Nat → Prop) : List (Int32 × Nat) → Nat → Prop
  | [], d => k d
  | (a, t) :: r, d => (x = a → k t) ∧ (¬ x = a → xsw x k r d)
def xswT (pc : Nat) : Int → List Int → List (Int32 × Nat) → Bool
  | _, [], [] => true
  | a, o :: os, (v, t) :: r => decide (v.toInt = a) && decide ((pc : Int) + o = (t : Int)) && xswT pc (a + 1) os r
  | _, _, _ => false
theorem xswT_of {x : Int32} {k : Nat → Prop} {d pc : Nat} : ∀ (os : List Int) (a : Int) (sw : List (Int32 × Nat)), xswT pc a os sw = true → xsw x k sw d →
    (∀ (j : Nat) (o : Int), os[j]? = some o → x.toInt = a + j → ∃ t : Nat, (pc : Int) + o = (t : Int) ∧ k t) ∧ ((∀ j : Nat, j < os.length → ¬ x.toInt = a + j) → k d)
  | [], a, [], _, h => ⟨fun j o hj => by simp at hj, fun _ => h⟩
  | [], a, _ :: _, hc, _ => by simp [xswT] at hc
  | o :: os, a, [], hc, _ => by simp [xswT] at hc
  | o :: os, a, (v, t) :: r, hc, h => by
    simp only [xswT, Bool.and_eq_true, decide_eq_true_eq] at hc
    obtain ⟨⟨h1, h2⟩, h3⟩ := hc
    by_cases hx : x = v
    · refine ⟨fun j o' hj hxa => ?_, fun hn => ?_⟩
      · have : j = 0 := by rw [hx, h1] at hxa; omega
        subst this
        simp at hj
        subst hj
        exact ⟨t, h2, h.1 hx⟩
      · exact absurd (by rw [hx, h1]; simp) (hn 0 (by simp))
    · obtain ⟨q1, q2⟩ := xswT_of os (a + 1) r h3 (h.2 hx)
      refine ⟨fun j o' hj hxa => ?_, fun hn => q2 (fun j hj => ?_)⟩
      · cases j with
        | zero =>
          exact absurd (Int32.toInt_inj.mp (by rw [h1, hxa]; simp)) hx
        | succ j =>
          exact q1 j o' (by simpa using hj) (by rw [hxa]; omega)
      · have := hn (j + 1) (by simp; omega)
        omega
def xcmp (c : ClassFile.Cond) (x y : Int32) (a b : Prop) : Prop := match c with
  | .eq => (x = y → a) ∧ (¬ x = y → b)
  | .ne => (¬ x = y → a) ∧ (x = y → b)
  | .lt => (x < y → a) ∧ (¬ x < y → b)
  | .ge => (y ≤ x → a) ∧ (¬ y ≤ x → b)
  | .gt => (y < x → a) ∧ (¬ y < x → b)
  | .le => (x ≤ y → a) ∧ (¬ x ≤ y → b)
def xlen : Instr → Nat
  | .bipush _ | .iload _ | .istore _ | .lload _ | .lstore _ | .aload _ | .astore _ | .ldc _ => 2
  | .sipush _ | .iinc _ _ | .ifCond _ _ | .if_icmp _ _ | .goto _ | .getfield _ | .putfield _ | .invokevirtual _ | .invokestatic _ | .invokespecial _ | .ldc2_w _ => 3
  | _ => 1
def xgood (cc : ByteArray) (pc : Nat) (e : XE) : Bool := match e.1 with
  | .nop => true
  | .tableswitch dflt lo hi offs => decide (decode cc pc = .ok (.tableswitch dflt lo hi offs, e.2.1)) && (decide ((pc : Int) + dflt = (e.2.2.1 : Int)) && (decide (hi + 1 = lo + (offs.size : Int)) && xswT pc lo offs.toList e.2.2.2.2))
  | ins => decide (decode cc pc = .ok (ins, xlen ins)) && (decide (e.2.1 = pc + xlen ins) && (match ins with
    | .iconst n => decide (Int32.ofInt n = e.2.2.2.1)
    | .bipush n => decide ((Int8.ofInt n).toInt32 = e.2.2.2.1)
    | .sipush n => decide ((Int16.ofInt n).toInt32 = e.2.2.2.1)
    | .iinc _ n => decide (Int32.ofInt n = e.2.2.2.1)
    | .ifCond _ off => decide ((pc : Int) + off = (e.2.2.1 : Int))
    | .if_icmp _ off => decide ((pc : Int) + off = (e.2.2.1 : Int))
    | .goto off => decide ((pc : Int) + off = (e.2.2.1 : Int))
    | _ => true))
