/-! The law: helpers -/
theorem lj {D : va_G} {cl : List vw_C} {A : Nat → Prop} {U V U1 : va_W} {H H1 : Heap} (hP : va_P D cl (U ++ V) H) (hD : va_D A (U ++ V)) (hk : ∀ q : Nat, q < H.size → ¬ va_A U H.size q → H1[q]? = H[q]?) (hF : ∀ q, va_A U H.size q → A q) (hP1 : va_P D cl U1 H1) (hD1 : va_D (va_A U H.size) U1) : va_P D cl (V ++ U1) H1 ∧ va_D A (V ++ U1) := by
  have hV : ∀ (k : Nat) (q : Nat × va_E), V[k]? = some q → (U ++ V)[U.length + k]? = some q := by
    intro k q h
    rw [List.getElem?_append_right (Nat.le_add_right _ _), Nat.add_sub_cancel_left]; exact h
  have hU : ∀ (k : Nat) (q : Nat × va_E), U[k]? = some q → k < U.length ∧ (U ++ V)[k]? = some q := by
    intro k q h
    have hl : k < U.length := (List.getElem?_eq_some_iff.mp h).1
    exact ⟨hl, by rw [List.getElem?_append_left hl]; exact h⟩
  have apart : ∀ (k : Nat) (q : Nat × va_E), V[k]? = some q → q.1 < H.size ∧ ¬ va_A U H.size q.1 := by
    intro k q hq
    have hl := (hP _ q (hV k q hq)).lt
    refine ⟨hl, fun h => ?_⟩
    rcases h with ⟨k2, e, h⟩ | h
    · obtain ⟨h3, h4⟩ := hU k2 (q.1, e) h
      have := hD.1 _ _ q (q.1, e) (hV k q hq) h4 rfl
      omega
    · omega
  refine ⟨va_P.app (fun k q hq => ?_) hP1, va_D.app ⟨fun i j x y hi hj h => ?_, fun k q h => hD.2 _ q (hV k q h)⟩ (hD1.weaken (fun k q _ h => hF q.1 h)) (fun i j x y hx hy hxy => ?_)⟩
  · obtain ⟨g1, g2⟩ := apart k q hq
    exact (hP _ q (hV k q hq)).kept (hk q.1 g1 g2)
  · have := hD.1 _ _ x y (hV i x hi) (hV j y hj) h
    omega
  · exact (apart i x hx).2 (by rw [hxy]; exact hD1.2 j y hy)
theorem lsP {D : va_G} {cl : List vw_C} {U V : va_W} {H : Heap} (hP : va_P D cl (U ++ V) H) : va_P D cl U H := fun k q h => hP k q (by rw [List.getElem?_append_left (List.getElem?_eq_some_iff.mp h).1]; exact h)
theorem lsD {A : Nat → Prop} {U V : va_W} (hD : va_D A (U ++ V)) : va_D A U :=
  ⟨fun i j x y hi hj h => hD.1 i j x y (by rw [List.getElem?_append_left (List.getElem?_eq_some_iff.mp hi).1]; exact hi) (by rw [List.getElem?_append_left (List.getElem?_eq_some_iff.mp hj).1]; exact hj) h, fun k q h => hD.2 k q (by rw [List.getElem?_append_left (List.getElem?_eq_some_iff.mp h).1]; exact h)⟩
/-- what stands fast in the law -/
def LC (p : Program) (s : State) (m : MethodId) (args : Array Value) (meth : Method) (c : Code) (b L : Nat) (xs : Nat → Int32) (D : va_G) (tc : Nat → ClassId) : Prop :=
  p.tables.exec = Jvm.exec ∧ c.code = code ∧ meth.sig.returnType = ret ∧ c.maxLocals = 4 ∧ s.vm.findClass "NullGuardLaw" = some m.cls ∧ (∀ w ∈ wsG, w.before args s = true) ∧ va_X b L xs s s.heap ∧ b < s.heap.size ∧ meth.locks = false ∧ va_K D vwCl (xt tc) s ∧ L ≤ 2048
def lA (s : State) : Nat → Prop := fun q => s.heap.size ≤ q
section Law
variable {p : Program} {l : Launch} {e : Env} {s : State} {m : MethodId} {args : Array Value} {below : List Frame} {meth : Method} {c : Code} {H : Heap} {locs : List Loc} {Q : State → Prop} {b L : Nat} {xs : Nat → Int32} {D : va_G} {tc ad : Nat → Nat}
abbrev lW (p : Program) (l : Launch) (e : Env) (s : State) (m : MethodId) (args : Array Value) (below : List Frame) (meth : Method) (c : Code) (H : Heap) (locs : List Loc) (Q : State → Prop) (pc : Nat) (la : Array Slot) (st : List Value) : Prop := W p l e room_1 s m args below meth c H locs 37 1494 Q (F0 m pc la st)
/-- one number of the script -/
theorem larg {la : Array Slot} {st : List Value} {i k pc : Nat} {lvs : List (Nat × Value)} (C0 : LC p s m args meth c b L xs D tc) (hS : va_S (lA s) s.heap H locs) (hl : lv_has la 4 ((3, .int (nI i)) :: lvs)) (hl0 : la[0]? = some (.val (.ref b))) (hi : i + k < L) (d0 : decode code pc = .ok (.aload_n 0, 1)) (d1 : decode code (pc + 1) = .ok (.iload_n 3, 1)) (d2 : decode code (pc + 2) = .ok (.iconst k, 1)) (d3 : decode code (pc + 3) = .ok (.iadd, 1)) (d4 : decode code (pc + 4) = .ok (.iaload, 1))
    (kk : lW p l e s m args below meth c H locs Q (pc + 5) la (.int (xs (i + k)) :: st)) : lW p l e s m args below meth c H locs Q pc la st := by
  obtain ⟨hx, hb, -, -, -, -, hX, hbl, -, -, hL⟩ := C0
  refine lv_aload_n (k := 0) hx hb d0 rfl hl0 ?_
  refine lv_iload_n (k := 3) hx hb d1 rfl (lv_at hl 0 rfl) ?_
  refine lv_iconst (v := nI k) hx hb d2 ?_ ?_
  · rfl
  refine lv_iadd hx hb d3 ?_
  rw [nI_add]
  refine va_sld hx hb hX hbl (fun h => absurd hbl (Nat.not_lt.mpr h)) hS (vp_in_nI hi (by omega)) d4 ?_
  rw [nI_clamp (by omega)]
  exact kk
theorem larg0 {la : Array Slot} {st : List Value} {i pc : Nat} {lvs : List (Nat × Value)} (C0 : LC p s m args meth c b L xs D tc) (hS : va_S (lA s) s.heap H locs) (hl : lv_has la 4 ((3, .int (nI i)) :: lvs)) (hl0 : la[0]? = some (.val (.ref b))) (hi : i < L) (d0 : decode code pc = .ok (.aload_n 0, 1)) (d1 : decode code (pc + 1) = .ok (.iload_n 3, 1)) (d4 : decode code (pc + 2) = .ok (.iaload, 1))
    (kk : lW p l e s m args below meth c H locs Q (pc + 3) la (.int (xs i) :: st)) : lW p l e s m args below meth c H locs Q pc la st := by
  obtain ⟨hx, hb, -, -, -, -, hX, hbl, -, -, hL⟩ := C0
  refine lv_aload_n (k := 0) hx hb d0 rfl hl0 ?_
  refine lv_iload_n (k := 3) hx hb d1 rfl (lv_at hl 0 rfl) ?_
  refine va_sld hx hb hX hbl (fun h => absurd hbl (Nat.not_lt.mpr h)) hS (vp_in_nI hi (by omega)) d4 ?_
  rw [nI_clamp (by omega)]
  exact kk
def lLong (x y : Int32) : Int64 := (x.toInt64 <<< ((32 : Int32).toInt64 &&& 63)) ||| (y.toInt64 &&& 4294967295)
theorem llong {la : Array Slot} {st : List Value} {i k pc : Nat} {lvs : List (Nat × Value)} (C0 : LC p s m args meth c b L xs D tc) (hS : va_S (lA s) s.heap H locs) (hl : lv_has la 4 ((3, .int (nI i)) :: lvs)) (hl0 : la[0]? = some (.val (.ref b))) (hi : i + (k + 1) < L) (d0 : decode code pc = .ok (.aload_n 0, 1)) (d1 : decode code (pc + 1) = .ok (.iload_n 3, 1)) (d2 : decode code (pc + 2) = .ok (.iconst k, 1)) (d3 : decode code (pc + 3) = .ok (.iadd, 1)) (d4 : decode code (pc + 4) = .ok (.iaload, 1))
    (d5 : decode code (pc + 5) = .ok (.i2l, 1)) (d6 : decode code (pc + 6) = .ok (.bipush 32, 2)) (d8 : decode code (pc + 8) = .ok (.lshl, 1)) (e0 : decode code (pc + 9) = .ok (.aload_n 0, 1)) (e1 : decode code (pc + 10) = .ok (.iload_n 3, 1)) (e2 : decode code (pc + 11) = .ok (.iconst (k + 1 : Nat), 1)) (e3 : decode code (pc + 12) = .ok (.iadd, 1)) (e4 : decode code (pc + 13) = .ok (.iaload, 1)) (e5 : decode code (pc + 14) = .ok (.i2l, 1)) (e6 : decode code (pc + 15) = .ok (.ldc2_w 13, 3)) (e7 : decode code (pc + 18) = .ok (.land, 1)) (e8 : decode code (pc + 19) = .ok (.lor, 1))
    (kk : lW p l e s m args below meth c H locs Q (pc + 20) la (.long (lLong (xs (i + k)) (xs (i + (k + 1)))) :: st)) : lW p l e s m args below meth c H locs Q pc la st := by
  refine larg C0 hS hl hl0 (by omega) d0 d1 d2 d3 d4 ?_
  have hx := C0.1
  have hb := C0.2.1
  refine lv_i2l hx hb d5 rfl ?_
  refine lv_bipush (v := 32) hx hb d6 (by decide) ?_
  refine lv_lshl hx hb d8 rfl ?_
  refine larg C0 hS hl hl0 hi e0 e1 e2 e3 e4 ?_
  refine lv_i2l hx hb e5 rfl ?_
  refine lv_ldc2 (own := "NullGuardLaw") (v := 4294967295) hx hb C0.2.2.2.2.1 (C0.2.2.2.2.2.1 _ (tb3 (i := 213) rfl rfl)) e6 ?_
  refine lv_land hx hb e7 ?_
  refine lv_lor hx hb e8 ?_
  exact kk
/-- a call of the law, in the first of two worlds -/
theorem lop {pc idx d' n ci k : Nat} {q : XI} {as st rest : List Value} {la : Array Slot} {w w' : List va_E} {r : Option Value} {V : va_W} {fs : List Value} {lvs : List (Nat × Value)} (C0 : LC p s m args meth c b L xs D tc) (hl : lv_has la 4 lvs) (hS : va_S (lA s) s.heap H locs) (hP : va_P D vwCl (xz tc ad 0 w ++ V) H) (hD : va_D (lA s) (xz tc ad 0 w ++ V)) (hM : XMet l d' q (.ref k :: as) w r w') (hd : d' ≤ 7) (hk : w[k]? = some (.inr (ci, fs))) (hc : xcok "NullGuardLaw" idx (q, true, n, ci)) (hn : (as.map (xv ad)).length = n) (hst : st = (as.map (xv ad)).reverse ++ .ref (ad k) :: rest) (hrm : (rest.map fun v => v.category).sum ≤ 8) (hdg : decode code pc = .ok (.invokevirtual idx, 3))
    (kk : ∀ (H1 : Heap) (locs1 : List Loc), va_P D vwCl (V ++ xz tc ad 0 w') H1 → va_D (lA s) (V ++ xz tc ad 0 w') → va_S (lA s) s.heap H1 locs1 → lW p l e s m args below meth c H1 locs1 Q (pc + 3) la ((r.map (xv ad)).toList ++ rest)) : lW p l e s m args below meth c H locs Q pc la st := by
  obtain ⟨hx, hb, -, hml, hown, hts, -, -, -, hK, -⟩ := C0
  have hc0 := hc
  obtain ⟨h1, h2, h3, h4, h5, h6, h7, T, N, h8⟩ := hc
  have hPw := lsP hP
  have hDw := lsD hD
  have hF := xfree hDw hS (fun z h => h)
  have he : (xz tc ad 0 w)[k]? = some (ad k, .inr (ci, fs.map (xv ad))) := by
    rw [xz_get, hk, Nat.zero_add]; rfl
  have hR := va_runV (p := p) (l := l) (e := e) (R := room_1) (m := m) (args := args) (below := below) (meth := meth) (c := c) (H := H) (locs := locs) (cells := 37) (slots := 1494) (As := as.map (xv ad)) (rest := rest) (b := ad k) (g := F0 m pc la st) (n := n) (index := idx) ⟨hx, hb, hml, hown, hts⟩ (hM D tc ad H.size) ⟨xcbR (R := room_1) hts hc0 (show d' + 1 ≤ 10 by omega) (show 8 + (q.2.2.1 + 11) + 40 * d' ≤ 370 by have : q.2.2.1 ≤ 21 := h4; omega), hts _ h6, hts _ h7⟩ ⟨xblind, va_recv hK hPw h8 he, xpre (as := .ref k :: as) hK hPw hDw⟩ rfl hn hl.1 hst (lv_room hrm) hdg ⟨Nat.le_refl _, Nat.le_refl _⟩
  intro T0 hT X
  obtain ⟨v, st₀, t, T', Lc, h0, X', hL, e1, e2, ⟨r', w1, ⟨rfl, rfl⟩, hv, hP', hD', -, hz, hk'⟩, sst⟩ := hR T0 hT X
  have hv := Outcome.returned.inj hv
  subst hv
  rw [h0] at hz hk'
  rw [← e1] at hP'
  obtain ⟨hP2, hD2⟩ := lj hP hD (H1 := T'.heap) (fun q h1 h2 => by rw [e1]; exact hk' q h1 h2) hF hP' hD'
  obtain ⟨t2, a1, b1⟩ := kk T'.heap (locs ++ Lc) hP2 hD2
    ⟨Nat.le_trans hS.1 (by rw [e1]; exact hz), fun q h1 h2 => by rw [e1, hk' q (Nat.lt_of_lt_of_le h1 hS.1) (fun z => h2 (hF q z))]; exact hS.2.1 q h1 h2, fun q hq => by
      rcases List.mem_append.mp hq with h | h
      · exact hS.2.2 q h
      · exact hF _ (hL q h)⟩ T' rfl X'
  exact ⟨t2, sst t2 a1, b1⟩
end Law
