theorem xlm_get {ad : Nat → Nat} {la : Array Slot} {nL : Nat} {ls : List (Nat × Value)} (hl : lv_has la nL (xlm ad ls)) {i : Nat} {v : Value} (h : xg ls i = some v) : la[i]? = some (.val (xv ad v)) :=
  hl.2.2 (i, xv ad v) (List.mem_map.mpr ⟨(i, v), xg_mem ls i v h, rfl⟩)
theorem xlm_mem {ad : Nat → Nat} {la : Array Slot} {nL : Nat} {ls ls' : List (Nat × Value)} (hl : lv_has la nL (xlm ad ls)) (h : ∀ q ∈ ls', q ∈ ls) : lv_has la nL (xlm ad ls') := by
  refine ⟨hl.1, hl.2.1, fun q hq => ?_⟩
  obtain ⟨q0, h1, rfl⟩ := List.mem_map.mp hq
  exact hl.2.2 _ (List.mem_map.mpr ⟨q0, h q0 h1, rfl⟩)
theorem xlm_sub {la : Array Slot} {nL : Nat} {l l' : List (Nat × Value)} (hl : lv_has la nL l) (h : ∀ q ∈ l', q ∈ l) : lv_has la nL l' := ⟨hl.1, hl.2.1, fun q hq => hl.2.2 q (h q hq)⟩
theorem xlm_st1 {ad : Nat → Nat} {la : Array Slot} {nL i : Nat} {v : Value} {ls : List (Nat × Value)} (hl : lv_has la nL ((i, xv ad v) :: (xlm ad ls).filter (fun q => !(q.1 == i) && !(q.1 + 1 == i && q.2.category == 2)))) : lv_has la nL (xlm ad ((i, v) :: xr i false ls)) := by
  refine xlm_sub hl (fun q hq => ?_)
  rcases List.mem_cons.mp hq with h | h
  · rw [h]; exact List.mem_cons_self
  · obtain ⟨q0, h1, rfl⟩ := List.mem_map.mp h
    obtain ⟨g1, g2, -, g4⟩ := xr_mem i false ls q0 h1
    refine List.mem_cons_of_mem _ (List.mem_filter.mpr ⟨List.mem_map.mpr ⟨q0, g1, rfl⟩, ?_⟩)
    simp only [xv_cat]
    by_cases e : q0.1 + 1 = i
    · have : ¬ q0.2.category = 2 := fun z => g4 ⟨e, z⟩
      simp [g2, this]
    · simp [g2, e]
theorem xlm_st2 {ad : Nat → Nat} {la : Array Slot} {nL i : Nat} {v : Value} {ls : List (Nat × Value)} (hl : lv_has la nL ((i, xv ad v) :: (xlm ad ls).filter (fun q => !(q.1 == i) && (!(q.1 == i + 1) && !(q.1 + 1 == i && q.2.category == 2))))) : lv_has la nL (xlm ad ((i, v) :: xr i true ls)) := by
  refine xlm_sub hl (fun q hq => ?_)
  rcases List.mem_cons.mp hq with h | h
  · rw [h]; exact List.mem_cons_self
  · obtain ⟨q0, h1, rfl⟩ := List.mem_map.mp h
    obtain ⟨g1, g2, g3, g4⟩ := xr_mem i true ls q0 h1
    have g3 := g3 rfl
    refine List.mem_cons_of_mem _ (List.mem_filter.mpr ⟨List.mem_map.mpr ⟨q0, g1, rfl⟩, ?_⟩)
    simp only [xv_cat]
    by_cases e : q0.1 + 1 = i
    · have : ¬ q0.2.category = 2 := fun z => g4 ⟨e, z⟩
      simp [g2, g3, this]
    · simp [g2, g3, e]
theorem xv_sl (ad : Nat → Nat) : ∀ as : List Value, (lg_sl (as.map (xv ad))).length = (lg_sl as).length
  | [] => rfl
  | v :: r => by
    have h := xv_sl ad r
    simp only [lg_sl, List.map_cons, List.flatMap_cons, List.length_append] at h ⊢
    rw [h, xv_cat]
    congr 1
    split <;> rfl
theorem xv_args (ad : Nat → Nat) : ∀ (as : List Value) (i : Nat), lv_args i (as.map (xv ad)) = xlm ad (lv_args i as)
  | [], i => rfl
  | v :: r, i => by
    simp only [List.map_cons, lv_args, xlm, xv_cat]
    rw [xv_args ad r]
    rfl
set_option maxHeartbeats 1000000 in
theorem xm_intro {l : Launch} {d : Nat} {q : XI} {as : List Value} {w : List va_E} {r : Option Value} {w' : List va_E} (hp : plainName q.1.cls = true) (hn : (lg_sl as).length ≤ q.2.2.1) (h : XW l d q (fun a b => a = r ∧ b = w') 0 (lv_args 0 as) [] w) : XMet l d q as w r w' := by
  intro D tc ad sz
  refine Met.ofW (cc := q.2.1) (maxL := q.2.2.1) (ret := q.2.2.2) hp rfl ?_
  intro p e s m args below meth c s₁ B hml hv
  obtain ⟨rfl, hsz, hP, hK, hD0⟩ := hv
  have hts := atoms_spec (ws := xW q) B.pre
  have hown : s.vm.findClass q.1.cls = some m.cls := findClass_of_methodNamed B.named
  subst hsz
  have hD := hD0.self (sz := s.heap.size)
  have hl := lv_entry (as.map (xv ad)) (n := q.2.2.1) (by rw [xv_sl]; exact hn)
  rw [xv_args] at hl
  rw [lg_entry_eq]
  exact h p e s m _ below meth c D tc ad _ s.heap [] _ ⟨B.exec, B.bytes, hml, hown, fun w hw => hts w (List.mem_cons_of_mem _ hw), B.returns, B.notSynchronized⟩ hK (fun z hz => Or.inr hz) hP hD va_S.rf hl
theorem xw_sub {l : Launch} {d : Nat} {q : XI} {Rt : Option Value → List va_E → Prop} {pc : Nat} {ls ls' : List (Nat × Value)} {st : List Value} {w : List va_E} (h : ∀ q ∈ ls', q ∈ ls) (k : XW l d q Rt pc ls' st w) : XW l d q Rt pc ls st w := by
  intro p e s m args below meth c D tc ad A H locs la X hK hA hP hD hS hl
  exact k p e s m args below meth c D tc ad A H locs la X hK hA hP hD hS (xlm_mem hl h)
section Sound
variable {p : Program} {l : Launch} {e : Env} {R : Room} {s : State} {m : MethodId} {args : Array Value} {below : List Frame} {meth : Method} {c : Code} {H : Heap} {locs : List Loc} {Q : State → Prop} {D : va_G} {tc : Nat → ClassId} {ad : Nat → Nat} {A A1 : Nat → Prop} {w : List va_E}
theorem xw_at {i : Nat} {x : va_E} (h : w[i]? = some x) : (xz tc ad 0 w)[i]? = some (ad i, xe tc ad x) := by
  rw [xz_get, h, Option.map_some, Nat.zero_add]
theorem xw_setP {i : Nat} {x : va_E} (h : va_P D vwCl ((xz tc ad 0 w).set i (ad i, xe tc ad x)) H) : va_P D vwCl (xz tc ad 0 (xu w i x)) H := by
  have e := xz_set tc ad w 0 i x
  rw [Nat.zero_add] at e
  rw [xu_eq, ← e]; exact h
theorem xw_setD {i : Nat} {x : va_E} (h : va_D A ((xz tc ad 0 w).set i (ad i, xe tc ad x))) : va_D A (xz tc ad 0 (xu w i x)) := by
  have e := xz_set tc ad w 0 i x
  rw [Nat.zero_add] at e
  rw [xu_eq, ← e]; exact h
/-- behind a call -/
theorem xcall {pc : Nat} {la : Array Slot} {rest st0 : List Value} {a : Array Value} {Rt : Option Value → List va_E → Prop} {cells slots : Nat}
    (hr : va_Run p l e R s m args below meth c H locs cells slots 0 0 (F0 m pc la st0) rest (XQ D tc ad A1 Rt a) A1) (hS : va_S A s.heap H locs) (hA : ∀ q, A1 q → A q)
    (kk : ∀ (v : Option Value) (w' : List va_E) (H1 : Heap) (locs1 : List Loc), Rt v w' → va_P D vwCl (xz tc ad 0 w') H1 → va_D A (xz tc ad 0 w') → va_S A s.heap H1 locs1 → W p l e R s m args below meth c H1 locs1 cells slots Q (F0 m (pc + 3) la ((v.map (xv ad)).toList ++ rest))) : W p l e R s m args below meth c H locs cells slots Q (F0 m pc la st0) := by
  intro T hT X
  obtain ⟨v, st₀, t, T', L, h0, X', hL, e1, e2, ⟨r, w', hq, hv, hP', hD', -, hz, hk⟩, st⟩ := hr T hT X
  have hv : v = r.map (xv ad) := Outcome.returned.inj hv
  subst hv
  rw [h0] at hz hk
  rw [← e1] at hP'
  obtain ⟨t2, a1, b1⟩ := kk r w' T'.heap (locs ++ L) hq hP' (hD'.weaken (fun _ q _ h => hA q.1 h))
    ⟨Nat.le_trans hS.1 (by rw [e1]; exact hz), fun q h1 h2 => by rw [e1, hk q (Nat.lt_of_lt_of_le h1 hS.1) (fun z => h2 (hA q z))]; exact hS.2.1 q h1 h2, fun q hq => by
      rcases List.mem_append.mp hq with h | h
      · exact hS.2.2 q h
      · exact hA _ (hL q h)⟩ T' rfl X'
  exact ⟨t2, st t2 a1, b1⟩
theorem xfree (hD : va_D A (xz tc ad 0 w)) (hS : va_S A s.heap H locs) (hA : ∀ z, s.heap.size ≤ z → A z) : ∀ q, va_A (xz tc ad 0 w) H.size q → A q := by
  intro q h
  rcases h with ⟨k, e, h⟩ | h
  · exact hD.2 k (q, e) h
  · exact hA q (Nat.le_trans hS.1 h)
theorem xblind {as : List Value} {sz : Nat} : FrameBlind (va_Pc (as.map (xv ad)) (fun U => U.heap.size = sz ∧ va_P D vwCl (xz tc ad 0 w) U.heap ∧ va_K D vwCl (xt tc) U ∧ va_D (fun _ => True) (xz tc ad 0 w))) :=
  fun a U g mk q => by obtain ⟨q0, q1, qP, qK, qD⟩ := q; exact ⟨q0, q1, qP, va_K.moved (u := U) (U := U.calling g mk a) (Vm.Alike.refl U.vm) qK, qD⟩
theorem xpre {as : List Value} (hK : va_K D vwCl (xt tc) s) (hP : va_P D vwCl (xz tc ad 0 w) H) (hD : va_D A (xz tc ad 0 w)) : ∀ U : State, U.heap = H → s.WarmedH U.vm → va_Pc (as.map (xv ad)) (fun U => U.heap.size = H.size ∧ va_P D vwCl (xz tc ad 0 w) U.heap ∧ va_K D vwCl (xt tc) U ∧ va_D (fun _ => True) (xz tc ad 0 w)) (as.map (xv ad)).toArray U :=
  fun U hU hW => ⟨rfl, by rw [hU], by rw [hU]; exact hP, va_K.moved hW.alike hK, hD.weaken (fun _ _ _ _ => trivial)⟩
theorem xcb {own : String} {index d' d : Nat} {q : XK} (hts : ∀ w ∈ wsG, w.before args s = true) (hc : xcok own index q) (hd : d' < d) : CallB (xR d) s args own index q.1.1 q.1.2.1 q.1.2.2.1 q.1.2.2.2 (xW q.1) (xR d') 0 0 q.2.2.1 := by
  obtain ⟨h1, h2, h3, h4, h5, -⟩ := hc
  refine callB_of (ws' := wsG) q.2.2.1 hts ?_ rfl rfl rfl (hts _ h2) (hts _ h5) h3 ⟨?_, ?_⟩
  · intro w hw
    rcases List.mem_cons.mp hw with h | h
    · rw [h]; exact ⟨h1, wsG_good h1⟩
    · exact ⟨h, wsG_good h⟩
  · show d' + 1 ≤ d; omega
  · show 8 + (q.1.2.2.1 + 11) + 40 * d' ≤ 40 * d; omega
end Sound
