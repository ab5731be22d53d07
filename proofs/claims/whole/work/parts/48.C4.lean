/-! NullGuard(), by program (wip/whole/genctor.py) -/
section YCall
variable {p : Program} {l : Launch} {e : Env} {R : Room} {s : State} {m : MethodId} {args : Array Value} {below : List Frame} {meth : Method} {c : Code} {H : Heap} {locs : List Loc} {Q : State → Prop} {D : va_G} {tc : Nat → ClassId} {A A1 : Nat → Prop}
/-- behind a constructor -/
theorem ycall {pc b mc ms : Nat} {la : Array Slot} {rest st0 : List Value} {a : Array Value} {w : List va_E} {cells slots : Nat}
    (hr : va_Run p l e R s m args below meth c H locs cells slots mc ms (F0 m pc la st0) rest (cQ D tc b A1 w a) A1) (hS : va_S A s.heap H locs) (hA : ∀ q, A1 q → A q)
    (kk : ∀ (ad : Nat → Nat) (H1 : Heap) (locs1 : List Loc), ad 0 = b → va_P D vwCl (xz tc ad 0 w) H1 → va_D A1 (xz tc ad 0 w) → (∀ q, q < H.size → ¬ A1 q → H1[q]? = H[q]?) → va_S A s.heap H1 locs1 → W p l e R s m args below meth c H1 locs1 (cells + mc) (slots + ms) Q (F0 m (pc + 3) la rest)) : W p l e R s m args below meth c H locs cells slots Q (F0 m pc la st0) := by
  intro T hT X
  obtain ⟨v, st₀, t, T', L, h0, X', hL, e1, e2, ⟨ad, had, hv, hP', hD', -, hz, hk⟩, st⟩ := hr T hT X
  have hv : v = none := Outcome.returned.inj hv
  subst hv
  rw [h0] at hz hk
  rw [← e1] at hP'
  obtain ⟨t2, a1, b1⟩ := kk ad T'.heap (locs ++ L) had hP' hD' (fun q h1 h2 => by rw [e1]; exact hk q h1 h2)
    ⟨Nat.le_trans hS.1 (by rw [e1]; exact hz), fun q h1 h2 => by rw [e1, hk q (Nat.lt_of_lt_of_le h1 hS.1) (fun z => h2 (hA q z))]; exact hS.2.1 q h1 h2, fun q hq => by
      rcases List.mem_append.mp hq with h | h
      · exact hS.2.2 q h
      · exact hA _ (hL q h)⟩ T' rfl X'
  exact ⟨t2, st t2 a1, b1⟩
end YCall
theorem yblind {D : va_G} {tc : Nat → ClassId} {av : List Value} {sz : Nat} {ws : va_W} : FrameBlind (va_Pc av (fun U => U.heap.size = sz ∧ va_P D vwCl ws U.heap ∧ va_K D vwCl (xt tc) U ∧ va_D (fun _ => True) ws)) :=
  fun a U g mk q => by obtain ⟨q0, q1, qP, qK, qD⟩ := q; exact ⟨q0, q1, qP, va_K.moved (u := U) (U := U.calling g mk a) (Vm.Alike.refl U.vm) qK, qD⟩
theorem ypre {D : va_G} {tc : Nat → ClassId} {av : List Value} {s : State} {H : Heap} {ws : va_W} {A : Nat → Prop} (hK : va_K D vwCl (xt tc) s) (hP : va_P D vwCl ws H) (hD : va_D A ws) : ∀ U : State, U.heap = H → s.WarmedH U.vm → va_Pc av (fun U => U.heap.size = H.size ∧ va_P D vwCl ws U.heap ∧ va_K D vwCl (xt tc) U ∧ va_D (fun _ => True) ws) av.toArray U :=
  fun U hU hW => ⟨rfl, by rw [hU], by rw [hU]; exact hP, va_K.moved hW.alike hK, hD.weaken (fun _ _ _ _ => trivial)⟩
theorem ygood {q : XI} (h : Cond.code q.1 q.2.1 q.2.2.1 q.2.2.2 ∈ wsG) : GoodIn wsG (xW q) := by
  intro w hw
  rcases List.mem_cons.mp hw with h1 | h1
  · rw [h1]; exact ⟨h, wsG_good h⟩
  · exact ⟨h1, wsG_good h1⟩
def s0 : CS := (fun _ => 0, fun _ => 0, 0, 0, 0)
def m0 : MSt := (fun v => if v < 5 then none else some 0, fun _ => 0, fun _ => some 0, 0, 0)
theorem m0_f : fFill 5 (fun _ => 0) (-1) 5 = fun v => oI (m0.1 v) := by
  funext v
  unfold fFill m0
  by_cases h : v < 5
  · simp [h, oI]
  · simp only [h, if_false]; rfl
set_option maxRecDepth 100000 in
set_option maxHeartbeats 4000000 in
theorem c_N_init (l : Launch) (D : va_G) (tc : Nat → ClassId) (a sz : Nat) : Met l q_N_init.1 (xW q_N_init) { frames := 7, cells := 20, slots := 781, locals := 280 } (va_Pc [.ref a] (fun U => (U.heap.size = sz ∧ va_P D vwCl [(a, .inr (3, [.null, .null, .null, .int 0, .int 0]))] U.heap ∧ va_K D vwCl (xt tc) U ∧ va_D (fun _ => True) [(a, .inr (3, [.null, .null, .null, .int 0, .int 0]))]) ∧ va_Nw (Cond.methodLinkNest "NullGuard" 18 q_K_init.1 "NullGuard") U)) (fun _ st oc t => ∃ ad : Nat → Nat, ad 20 = a ∧ oc = .returned none ∧ va_P D vwCl (xz tc ad 0 (wA zI s0 m0 (-1) 0 0 0)) t.heap ∧ va_D (va_A [(a, .inr (3, [.null, .null, .null, .int 0, .int 0]))] sz) (xz tc ad 0 (wA zI s0 m0 (-1) 0 0 0)) ∧ va_K D vwCl (xt tc) t ∧ va_F (va_A [(a, .inr (3, [.null, .null, .null, .int 0, .int 0]))] sz) st t) 20 781 (va_A [(a, .inr (3, [.null, .null, .null, .int 0, .int 0]))] sz) := by
  refine Met.ofW (cc := q_N_init.2.1) (maxL := 1) (ret := none) (by decide +kernel) rfl ?_
  intro p e s m args below meth c s₁ B hml hv
  obtain ⟨rfl, ⟨hsz, hP, hK, hD0⟩, hNw⟩ := hv
  have hx := B.exec
  have hb := B.bytes
  have hr := B.returns
  have hts0 := atoms_spec (ws := xW q_N_init) B.pre
  have hts : ∀ w ∈ wsG, w.before ([Value.ref a] : List Value).toArray s = true := fun w hw => hts0 w (List.mem_cons_of_mem _ hw)
  have hown : s.vm.findClass "NullGuard" = some m.cls := findClass_of_methodNamed B.named
  have hlocks := B.notSynchronized
  have hin : meth.name = "<init>" := (name_of_methodNamed B.named B.method).1
  subst hsz
  have hD := hD0.self (sz := s.heap.size)
  generalize hAe : va_A [(a, .inr (3, [.null, .null, .null, .int 0, .int 0]))] s.heap.size = A at hD ⊢
  have hA : ∀ q : Nat, s.heap.size ≤ q → A q := fun q h => by rw [← hAe]; exact Or.inr h
  have hS : va_S A s.heap s.heap [] := va_S.rf
  have hl := lv_entry ([.ref a]) (n := 1) (Nat.le_of_ble_eq_true rfl)
  rw [lg_entry_eq]
  generalize (lg_sl ([.ref a]) ++ List.replicate (1 - (lg_sl ([.ref a])).length) Slot.unset).toArray = la at hl ⊢
  have hl : lv_has la 1 [(0, .ref a)] := hl
  refine lv_aload_n (k := 0) hx hb (show decode q_N_init.2.1 0 = .ok (.aload_n 0, 1) by decide +kernel) rfl (lv_at hl 0 rfl) ?_
  refine W.objInit hx hb hown (hts _ (tb1 (i := 13) rfl rfl)) (hts _ (tb1 (i := 14) rfl rfl)) (hts _ (tb1 (i := 15) rfl rfl)) rfl (by rw [hml]; exact hl.1) rfl (show decode q_N_init.2.1 1 = .ok (.invokespecial 3, 3) by decide +kernel) (Nat.le_of_ble_eq_true rfl) (Nat.le_of_ble_eq_true rfl) ?_
  refine W.eq (g2 := F0 m 4 la []) rfl ?_
  refine lv_aload_n (k := 0) hx hb (show decode q_N_init.2.1 4 = .ok (.aload_n 0, 1) by decide +kernel) rfl (lv_at hl 0 rfl) ?_
  refine va_new (ci := 0) (fs := [.null, .int 0, .int 0, .int 0, .null, .null, .null, .null, .null, .null, .null, .null, .null, .null, .null, .int 0]) (C := R_P) (T := F_P) (N := 16) hx hb hts u_P t_P t_P_ok hown (hts _ (tb1 (i := 16) rfl rfl)) (hts _ (tb1 (i := 17) rfl rfl)) (hts _ (tb1 (i := 2) rfl rfl)) hK hP hD hS hA rfl (fun j hj => by have hj : j < 16 := hj; match j, hj with | 0, _ => rfl | 1, _ => rfl | 2, _ => rfl | 3, _ => rfl | 4, _ => rfl | 5, _ => rfl | 6, _ => rfl | 7, _ => rfl | 8, _ => rfl | 9, _ => rfl | 10, _ => rfl | 11, _ => rfl | 12, _ => rfl | 13, _ => rfl | 14, _ => rfl | 15, _ => rfl | j + 16, hj => exact absurd hj (by omega)) (by decide) (by decide) (show decode q_N_init.2.1 5 = .ok (.new 9, 3) by decide +kernel) (fun q1 H hP hD hS => ?_)
  refine lv_dup hx hb (show decode q_N_init.2.1 8 = .ok (.dup, 1) by decide +kernel) rfl ?_
  have hPs : va_P D vwCl [(q1, .inr (0, [.null, .int 0, .int 0, .int 0, .null, .null, .null, .null, .null, .null, .null, .null, .null, .null, .null, .int 0]))] H := hP.sub [1] rfl
  have hDs : va_D A [(q1, .inr (0, [.null, .int 0, .int 0, .int 0, .null, .null, .null, .null, .null, .null, .null, .null, .null, .null, .null, .int 0]))] := hD.sub [1] rfl rfl
  have hF : ∀ q, va_A [(q1, .inr (0, [.null, .int 0, .int 0, .int 0, .null, .null, .null, .null, .null, .null, .null, .null, .null, .null, .null, .int 0]))] H.size q → A q := fun q h => h.elim (fun ⟨k, e, he⟩ => hDs.2 k (q, e) he) (fun h => hA q (Nat.le_trans hS.1 h))
  refine ycall (A := A) (va_runI (As := []) (rest := [.ref q1, .ref a]) (b := q1) ⟨hx, hb, hml, hown, hts⟩ (c_P_init l D tc q1 H.size) ⟨callB_of (R := (headSpec (xW q_N_init) { frames := 7, cells := 20, slots := 781, locals := 280 }).room) (rm := { frames := 6, cells := 12, slots := 602, locals := 240 }) (ws' := wsG) 0 hts (ygood (tb1 (i := 20) rfl rfl)) rfl rfl rfl (hts _ (tb1 (i := 2) rfl rfl)) (hts _ (tb1 (i := 18) rfl rfl)) ⟨by decide, by decide, by decide +kernel⟩ ⟨by decide, by decide⟩, rfl, hts _ (tb1 (i := 19) rfl rfl)⟩ ⟨yblind, ypre hK hPs hDs⟩ rfl rfl hl.1 rfl (lv_room (Nat.le_of_ble_eq_true rfl)) (show decode q_N_init.2.1 9 = .ok (.invokespecial 11, 3) by decide +kernel) ⟨by decide, by decide⟩) hS hF (fun ad1 H1 locs1 had hP1 hD1 hk hS1 => ?_)
  have hJ := va_join (wr := [(a, .inr (3, [.null, .null, .null, .int 0, .int 0]))]) hP hD [1] [0] rfl rfl rfl (by decide) hk hF hP1 hD1
  clear hP hD hPs hDs hF hk hP1 hD1 hS
  obtain ⟨hP, hD⟩ := hJ
  subst had
  refine W.eq (g2 := F0 m 12 la [.ref (ad1 0), .ref a]) rfl ?_
  refine va_putF (D := D) (ci := 3) (v := .ref (ad1 0)) (ty := .object "NullGuard$Program") (C := R_N) (T := F_N) (N := 5) hx hb hts u_N t_N t_N_ok n_N hown hK hP hD hS1 0 rfl rfl 0 (by decide) (hts _ (tb1 (i := 213) rfl rfl)) (fun _ h9 => h9) rfl hin rfl (t_N_ok 0 (by decide)) rfl rfl (Nat.le_of_ble_eq_true rfl) (show decode q_N_init.2.1 12 = .ok (.putfield 12, 3) by decide +kernel) (fun H locs hP hD hS => ?_)
  replace hP : va_P D vwCl ([(a, .inr (3, [.ref (ad1 0), .null, .null, .int 0, .int 0]))] ++ xz tc ad1 0 (wP zI [])) H := hP
  replace hD : va_D A ([(a, .inr (3, [.ref (ad1 0), .null, .null, .int 0, .int 0]))] ++ xz tc ad1 0 (wP zI [])) := hD
  clear hS1
  refine lv_aload_n (k := 0) hx hb (show decode q_N_init.2.1 15 = .ok (.aload_n 0, 1) by decide +kernel) rfl (lv_at hl 0 rfl) ?_
  refine va_new (ci := 1) (fs := [.null, .null, .int 0, .int 0, .int 0]) (C := R_K) (T := F_K) (N := 5) hx hb hts u_K t_K t_K_ok hown (hts _ (tb1 (i := 156) rfl rfl)) (hts _ (tb1 (i := 157) rfl rfl)) (hts _ (tb1 (i := 4) rfl rfl)) hK hP hD hS hA rfl (fun j hj => by have hj : j < 5 := hj; match j, hj with | 0, _ => rfl | 1, _ => rfl | 2, _ => rfl | 3, _ => rfl | 4, _ => rfl | j + 5, hj => exact absurd hj (by omega)) (by decide) (by decide) (show decode q_N_init.2.1 16 = .ok (.new 16, 3) by decide +kernel) (fun q2 H hP hD hS => ?_)
  refine lv_dup hx hb (show decode q_N_init.2.1 19 = .ok (.dup, 1) by decide +kernel) rfl ?_
  have hPs : va_P D vwCl [(q2, .inr (1, [.null, .null, .int 0, .int 0, .int 0]))] H := hP.sub [14] rfl
  have hDs : va_D A [(q2, .inr (1, [.null, .null, .int 0, .int 0, .int 0]))] := hD.sub [14] rfl rfl
  have hF : ∀ q, va_A [(q2, .inr (1, [.null, .null, .int 0, .int 0, .int 0]))] H.size q → A q := fun q h => h.elim (fun ⟨k, e, he⟩ => hDs.2 k (q, e) he) (fun h => hA q (Nat.le_trans hS.1 h))
  refine ycall (A := A) (va_runIN (As := []) (rest := [.ref q2, .ref a]) (b := q2) ⟨hx, hb, hml, hown, hts⟩ (c_K_init l D tc q2 H.size) ⟨va_cnB (R := (headSpec (xW q_N_init) { frames := 7, cells := 20, slots := 781, locals := 280 }).room) (rm := { frames := 1, cells := 2, slots := 130, locals := 40 }) (ws' := wsG) 0 hts (ygood (tb1 (i := 160) rfl rfl)) rfl rfl rfl hNw (hts _ (tb1 (i := 4) rfl rfl)) ⟨by decide, by decide, by decide +kernel⟩ ⟨by decide, by decide⟩, rfl, hts _ (tb1 (i := 159) rfl rfl)⟩ ⟨yblind, ypre hK hPs hDs⟩ rfl rfl hl.1 rfl (lv_room (Nat.le_of_ble_eq_true rfl)) (show decode q_N_init.2.1 20 = .ok (.invokespecial 18, 3) by decide +kernel) ⟨by decide, by decide⟩) hS hF (fun ad2 H1 locs1 had hP1 hD1 hk hS1 => ?_)
  have hJ := va_join (wr := [(a, .inr (3, [.ref (ad1 0), .null, .null, .int 0, .int 0]))] ++ xz tc ad1 0 (wP zI [])) hP hD [14] [0, 1, 2, 3, 4, 5, 6, 7, 8, 9, 10, 11, 12, 13] rfl rfl rfl (by decide) hk hF hP1 hD1
  clear hP hD hPs hDs hF hk hP1 hD1 hS
  obtain ⟨hP, hD⟩ := hJ
  subst had
  refine W.eq (g2 := F0 m 23 la [.ref (ad2 0), .ref a]) rfl ?_
  refine va_putF (D := D) (ci := 3) (v := .ref (ad2 0)) (ty := .object "NullGuard$Checker") (C := R_N) (T := F_N) (N := 5) hx hb hts u_N t_N t_N_ok n_N hown hK hP hD hS1 0 rfl rfl 1 (by decide) (hts _ (tb1 (i := 214) rfl rfl)) (fun _ h9 => h9) rfl hin rfl (t_N_ok 1 (by decide)) rfl rfl (Nat.le_of_ble_eq_true rfl) (show decode q_N_init.2.1 23 = .ok (.putfield 19, 3) by decide +kernel) (fun H locs hP hD hS => ?_)
  replace hP : va_P D vwCl ([(a, .inr (3, [.ref (ad1 0), .ref (ad2 0), .null, .int 0, .int 0]))] ++ xz tc ad1 0 (wP zI []) ++ xz tc ad2 0 [.inr (1, [.ref 1, .ref 2, .int 0, .int 0, .int 0]), .inl (0, 65, .inl (fun _ => 0)), .inl (0, 65, .inl (fun _ => 0))]) H := hP
  replace hD : va_D A ([(a, .inr (3, [.ref (ad1 0), .ref (ad2 0), .null, .int 0, .int 0]))] ++ xz tc ad1 0 (wP zI []) ++ xz tc ad2 0 [.inr (1, [.ref 1, .ref 2, .int 0, .int 0, .int 0]), .inl (0, 65, .inl (fun _ => 0)), .inl (0, 65, .inl (fun _ => 0))]) := hD
  clear hS1
  refine lv_aload_n (k := 0) hx hb (show decode q_N_init.2.1 26 = .ok (.aload_n 0, 1) by decide +kernel) rfl (lv_at hl 0 rfl) ?_
  refine va_new (ci := 2) (fs := [.null, .null, .null, .int 0, .int 0, .long 0, .int 0]) (C := R_H) (T := F_H) (N := 7) hx hb hts u_H t_H t_H_ok hown (hts _ (tb1 (i := 179) rfl rfl)) (hts _ (tb1 (i := 180) rfl rfl)) (hts _ (tb1 (i := 5) rfl rfl)) hK hP hD hS hA rfl (fun j hj => by have hj : j < 7 := hj; match j, hj with | 0, _ => rfl | 1, _ => rfl | 2, _ => rfl | 3, _ => rfl | 4, _ => rfl | 5, _ => rfl | 6, _ => rfl | j + 7, hj => exact absurd hj (by omega)) (by decide) (by decide) (show decode q_N_init.2.1 27 = .ok (.new 23, 3) by decide +kernel) (fun q3 H hP hD hS => ?_)
  refine lv_dup hx hb (show decode q_N_init.2.1 30 = .ok (.dup, 1) by decide +kernel) rfl ?_
  have hPs : va_P D vwCl [(q3, .inr (2, [.null, .null, .null, .int 0, .int 0, .long 0, .int 0]))] H := hP.sub [17] rfl
  have hDs : va_D A [(q3, .inr (2, [.null, .null, .null, .int 0, .int 0, .long 0, .int 0]))] := hD.sub [17] rfl rfl
  have hF : ∀ q, va_A [(q3, .inr (2, [.null, .null, .null, .int 0, .int 0, .long 0, .int 0]))] H.size q → A q := fun q h => h.elim (fun ⟨k, e, he⟩ => hDs.2 k (q, e) he) (fun h => hA q (Nat.le_trans hS.1 h))
  refine ycall (A := A) (va_runI (As := []) (rest := [.ref q3, .ref a]) (b := q3) ⟨hx, hb, hml, hown, hts⟩ (c_H_init l D tc q3 H.size) ⟨callB_of (R := (headSpec (xW q_N_init) { frames := 7, cells := 20, slots := 781, locals := 280 }).room) (rm := { frames := 1, cells := 3, slots := 21, locals := 40 }) (ws' := wsG) 0 hts (ygood (tb1 (i := 183) rfl rfl)) rfl rfl rfl (hts _ (tb1 (i := 5) rfl rfl)) (hts _ (tb1 (i := 181) rfl rfl)) ⟨by decide, by decide, by decide +kernel⟩ ⟨by decide, by decide⟩, rfl, hts _ (tb1 (i := 182) rfl rfl)⟩ ⟨yblind, ypre hK hPs hDs⟩ rfl rfl hl.1 rfl (lv_room (Nat.le_of_ble_eq_true rfl)) (show decode q_N_init.2.1 31 = .ok (.invokespecial 25, 3) by decide +kernel) ⟨by decide, by decide⟩) hS hF (fun ad3 H1 locs1 had hP1 hD1 hk hS1 => ?_)
  have hJ := va_join (wr := [(a, .inr (3, [.ref (ad1 0), .ref (ad2 0), .null, .int 0, .int 0]))] ++ xz tc ad1 0 (wP zI []) ++ xz tc ad2 0 [.inr (1, [.ref 1, .ref 2, .int 0, .int 0, .int 0]), .inl (0, 65, .inl (fun _ => 0)), .inl (0, 65, .inl (fun _ => 0))]) hP hD [17] [0, 1, 2, 3, 4, 5, 6, 7, 8, 9, 10, 11, 12, 13, 14, 15, 16] rfl rfl rfl (by decide) hk hF hP1 hD1
  clear hP hD hPs hDs hF hk hP1 hD1 hS
  obtain ⟨hP, hD⟩ := hJ
  subst had
  refine W.eq (g2 := F0 m 34 la [.ref (ad3 0), .ref a]) rfl ?_
  refine va_putF (D := D) (ci := 3) (v := .ref (ad3 0)) (ty := .object "NullGuard$Machine") (C := R_N) (T := F_N) (N := 5) hx hb hts u_N t_N t_N_ok n_N hown hK hP hD hS1 0 rfl rfl 2 (by decide) (hts _ (tb1 (i := 215) rfl rfl)) (fun _ h9 => h9) rfl hin rfl (t_N_ok 2 (by decide)) rfl rfl (Nat.le_of_ble_eq_true rfl) (show decode q_N_init.2.1 34 = .ok (.putfield 26, 3) by decide +kernel) (fun H locs hP hD hS => ?_)
  replace hP : va_P D vwCl ([(a, .inr (3, [.ref (ad1 0), .ref (ad2 0), .ref (ad3 0), .int 0, .int 0]))] ++ xz tc ad1 0 (wP zI []) ++ xz tc ad2 0 [.inr (1, [.ref 1, .ref 2, .int 0, .int 0, .int 0]), .inl (0, 65, .inl (fun _ => 0)), .inl (0, 65, .inl (fun _ => 0))] ++ xz tc ad3 0 [.inr (2, [.ref 1, .ref 2, .ref 3, .int 0, .int (-1), .long 0, .int 0]), .inl (0, 5, .inl (fFill 5 (fun _ => 0) (-1) 5)), .inl (0, 8, .inl (fun _ => 0)), .inl (0, 8, .inl (fun _ => 0))]) H := hP
  replace hD : va_D A ([(a, .inr (3, [.ref (ad1 0), .ref (ad2 0), .ref (ad3 0), .int 0, .int 0]))] ++ xz tc ad1 0 (wP zI []) ++ xz tc ad2 0 [.inr (1, [.ref 1, .ref 2, .int 0, .int 0, .int 0]), .inl (0, 65, .inl (fun _ => 0)), .inl (0, 65, .inl (fun _ => 0))] ++ xz tc ad3 0 [.inr (2, [.ref 1, .ref 2, .ref 3, .int 0, .int (-1), .long 0, .int 0]), .inl (0, 5, .inl (fFill 5 (fun _ => 0) (-1) 5)), .inl (0, 8, .inl (fun _ => 0)), .inl (0, 8, .inl (fun _ => 0))]) := hD
  clear hS1
  rw [m0_f] at hP hD
  obtain ⟨ad, had⟩ : ∃ ad : Nat → Nat, ad = fun i => if i < 13 then ad1 i else if i < 16 then ad2 (i - 13) else if i < 20 then ad3 (i - 16) else a := ⟨_, rfl⟩
  have hPx : va_P D vwCl (xz tc ad 0 (wA zI s0 m0 (-1) 0 0 0)) H := by rw [had]; exact hP.sub [1, 2, 3, 4, 5, 6, 7, 8, 9, 10, 11, 12, 13, 14, 15, 16, 17, 18, 19, 20, 0] rfl
  have hDx : va_D A (xz tc ad 0 (wA zI s0 m0 (-1) 0 0 0)) := by rw [had]; exact hD.sub [1, 2, 3, 4, 5, 6, 7, 8, 9, 10, 11, 12, 13, 14, 15, 16, 17, 18, 19, 20, 0] rfl rfl
  exact W.vret hx hb hr (fun t ht hW => ⟨ad, by rw [had]; rfl, rfl, by rw [ht]; exact hPx, hDx, va_K.moved hW.alike hK, hS.F ht⟩) hS.2.2 (show decode q_N_init.2.1 37 = .ok (.return_, 1) by decide +kernel)
