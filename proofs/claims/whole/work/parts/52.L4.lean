/-! The law: from its entry to its loop -/
theorem ycallN {p : Program} {l : Launch} {e : Env} {R : Room} {s : State} {m : MethodId} {args : Array Value} {below : List Frame} {meth : Method} {c : Code} {H : Heap} {locs : List Loc} {Q : State → Prop} {D : va_G} {tc : Nat → ClassId} {A A1 : Nat → Prop} {pc b mc ms j : Nat} {la : Array Slot} {rest st0 : List Value} {w : List va_E} {cells slots : Nat}
    (hr : va_Run p l e R s m args below meth c H locs cells slots mc ms (F0 m pc la st0) rest (fun st oc t => ∃ ad : Nat → Nat, ad j = b ∧ oc = .returned none ∧ va_P D vwCl (xz tc ad 0 w) t.heap ∧ va_D A1 (xz tc ad 0 w) ∧ va_K D vwCl (xt tc) t ∧ va_F A1 st t) A1) (hS : va_S A s.heap H locs) (hA : ∀ q, A1 q → A q)
    (kk : ∀ (ad : Nat → Nat) (H1 : Heap) (locs1 : List Loc), ad j = b → va_P D vwCl (xz tc ad 0 w) H1 → va_D A1 (xz tc ad 0 w) → (∀ q, q < H.size → ¬ A1 q → H1[q]? = H[q]?) → va_S A s.heap H1 locs1 → W p l e R s m args below meth c H1 locs1 (cells + mc) (slots + ms) Q (F0 m (pc + 3) la rest)) : W p l e R s m args below meth c H locs cells slots Q (F0 m pc la st0) := by
  intro T hT X
  obtain ⟨v, st₀, t, T', L, h0, X', hL, e1, e2, ⟨ad, had, hv, hP', hD', -, hz, hk⟩, st⟩ := hr T hT X
  have hv : v = none := Outcome.returned.inj hv
  subst hv
  rw [h0] at hz hk
  rw [← e1] at hP'
  obtain ⟨t2, a1, b1⟩ := kk ad T'.heap (locs ++ L) had hP' hD' (fun q h1 h2 => by rw [e1]; exact hk q h1 h2)
    ⟨Nat.le_trans hS.1 (by rw [e1]; exact hz), fun q h1 h2 => by rw [e1, hk q (Nat.lt_of_lt_of_le h1 hS.1) (fun z => h2 (hA q z))]; exact hS.2.1 q h1 h2, fun q hq => by
      rcases List.mem_append.mp hq with h | h
      · exact hS.2.2 q h
      · exact hA _ (hL q h)⟩ T' rfl X'
  exact ⟨t2, st t2 a1, b1⟩
theorem yarr {args : Array Value} {s : State} {ty : FieldType} (hty : ∀ C, ty ≠ .object C) (h : (Cond.arrayClass ty).before args s = true) : ∃ c : ClassId, ArrOfT s c ty ∧ va_RA s c ty := by
  obtain ⟨c, k, comp, h1, h2, h3⟩ := Cond.arrayClass_spec h
  refine ⟨c, fun n z => ⟨fun k h => (by cases h), k, h2, comp, h3⟩, ?_⟩
  cases ty with
  | object C => exact absurd rfl (hty C)
  | _ => exact h1
set_option maxHeartbeats 1000000 in
theorem yK {args : Array Value} {s : State} (hts : ∀ w ∈ wsG, w.before args s = true) : ∃ (D : va_G) (tc : Nat → ClassId), va_K D vwCl (xt tc) s := by
  obtain ⟨cP, iP, hP⟩ := u_known hts u_P (hts _ (tb1 (i := 17) rfl rfl))
  obtain ⟨cK, iK, hK⟩ := u_known hts u_K (hts _ (tb1 (i := 157) rfl rfl))
  obtain ⟨cH, iH, hH⟩ := u_known hts u_H (hts _ (tb1 (i := 180) rfl rfl))
  obtain ⟨cN, iN, hN⟩ := u_known hts u_N (hts _ (tb1 (i := 9) rfl rfl))
  obtain ⟨cM, iM, hM⟩ := u_known hts u_M (hts _ (tb2 (i := 195) rfl rfl))
  obtain ⟨t0, ht0⟩ := yarr (fun C h => by cases h) (hts _ (tb1 (i := 155) rfl rfl))
  obtain ⟨t1, ht1⟩ := yarr (fun C h => by cases h) (hts _ (tb1 (i := 154) rfl rfl))
  obtain ⟨t2, ht2⟩ := yarr (fun C h => by cases h) (hts _ (tb3 (i := 41) rfl rfl))
  refine ⟨(fun | 0 => cP | 1 => cK | 2 => cH | 3 => cN | _ => cM, fun | 0 => iP | 1 => iK | 2 => iH | 3 => iN | _ => iM), (fun | 0 => t0 | 1 => t1 | _ => t2), ?_, ?_⟩
  · intro k q hq
    match k, hq with
    | 0, hq => cases hq; exact hP
    | 1, hq => cases hq; exact hK
    | 2, hq => cases hq; exact hH
    | 3, hq => cases hq; exact hN
    | 4, hq => cases hq; exact hM
    | k + 5, hq => cases hq
  · intro k q hq
    match k, hq with
    | 0, hq => cases hq; exact ht0
    | 1, hq => cases hq; exact ht1
    | 2, hq => cases hq; exact ht2
    | k + 3, hq => cases hq
set_option maxRecDepth 100000 in
set_option maxHeartbeats 4000000 in
theorem law_start {p : Program} {e : Env} {s : State} {m : MethodId} {below : List Frame} {meth : Method} {c : Code} (l : Launch) {b L : Nat} {xs : Nat → Int32} (J : List va_E → List va_E → Prop) (O : LawOps l J) (hJ0 : J (wA zI s0 m0 (-1) 0 0 0) (vM (fun _ _ => 0) 0)) (hL : L ≤ 2048) (C0 : lw_At p s m meth c b L xs) : W p l e room_1 s m #[Value.ref b] below meth c s.heap [] 0 0 (lw_Z below #[Value.ref b] s) (entryFrame m ([Value.ref b] : List Value).toArray 4) := by
  obtain ⟨hx, hb, hr, hml, hown, hts0, hX, hbl, hlocks, -⟩ := C0
  have hts : ∀ w ∈ wsG, w.before #[Value.ref b] s = true := fun w h => hts0 w (List.mem_filter.mp h).1
  replace hown : s.vm.findClass "NullGuardLaw" = some m.cls := hown
  obtain ⟨D, tc, hK⟩ := yK hts
  have hNw : va_Nw (Cond.methodLinkNest "NullGuard" 18 q_K_init.1 "NullGuard") s := va_Nw.of rfl (hts0 _ (show _ ∈ lw_tbl from List.mem_append_right _ (List.mem_append_left _ (List.mem_of_getElem? (i := 158) rfl))))
  have hl := lv_entry ([.ref b]) (n := 4) (Nat.le_of_ble_eq_true rfl)
  rw [lg_entry_eq]
  generalize (lg_sl ([.ref b]) ++ List.replicate (4 - (lg_sl ([.ref b])).length) Slot.unset).toArray = la at hl ⊢
  have hl : lv_has la 4 [(0, .ref b)] := hl
  have hP : va_P D vwCl [] s.heap := fun k q h => by cases h
  have hD : va_D (lA s) [] := ⟨fun i j x y h => by (cases h), fun k q h => by (cases h)⟩
  have hS : va_S (lA s) s.heap s.heap [] := va_S.rf
  refine va_new (ci := 3) (fs := [.null, .null, .null, .int 0, .int 0]) (C := R_N) (T := F_N) (N := 5) hx hb hts u_N t_N t_N_ok hown (hts _ (tb1 (i := 8) rfl rfl)) (hts _ (tb1 (i := 9) rfl rfl)) (hts _ (tb1 (i := 1) rfl rfl)) hK hP hD hS (fun q h => h) rfl (fun j hj => by have hj : j < 5 := hj; match j, hj with | 0, _ => rfl | 1, _ => rfl | 2, _ => rfl | 3, _ => rfl | 4, _ => rfl | j + 5, hj => exact absurd hj (by omega)) (by decide) (by decide) (show decode code 0 = .ok (.new 7, 3) by decide +kernel) (fun q1 H hP hD hS => ?_)
  replace hP : va_P D vwCl [(q1, .inr (3, [.null, .null, .null, .int 0, .int 0]))] H := hP
  replace hD : va_D (lA s) [(q1, .inr (3, [.null, .null, .null, .int 0, .int 0]))] := hD
  refine lv_dup hx hb (show decode code 3 = .ok (.dup, 1) by decide +kernel) rfl ?_
  have hF : ∀ q, va_A [(q1, .inr (3, [.null, .null, .null, .int 0, .int 0]))] H.size q → lA s q := fun q h => h.elim (fun ⟨k, e, he⟩ => hD.2 k (q, e) he) (fun h => Nat.le_trans hS.1 h)
  refine ycallN (A := lA s) (j := 20) (va_runI (As := []) (rest := [.ref q1]) (b := q1) ⟨hx, hb, hml, hown, hts⟩ (c_N_init l D tc q1 H.size) ⟨callB_of (R := room_1) (rm := { frames := 7, cells := 20, slots := 781, locals := 280 }) (ws' := wsG) 0 hts (ygood (tb1 (i := 12) rfl rfl)) rfl rfl rfl (hts _ (tb1 (i := 1) rfl rfl)) (hts _ (tb1 (i := 10) rfl rfl)) ⟨by decide, by decide, by decide +kernel⟩ ⟨by decide, by decide⟩, rfl, hts _ (tb1 (i := 11) rfl rfl)⟩ ⟨fun a U g mk q => ⟨q.1, ⟨q.2.1.1, q.2.1.2.1, va_K.moved (u := U) (U := U.calling g mk a) (Vm.Alike.refl U.vm) q.2.1.2.2.1, q.2.1.2.2.2⟩, va_Nw.same rfl rfl q.2.2⟩, fun U hU hW => ⟨rfl, ⟨by rw [hU], by rw [hU]; exact hP, va_K.moved hW.alike hK, hD.weaken (fun _ _ _ _ => trivial)⟩, va_Nw.warmM hW hNw⟩⟩ rfl rfl hl.1 rfl (lv_room (Nat.le_of_ble_eq_true rfl)) (show decode code 4 = .ok (.invokespecial 9, 3) by decide +kernel) ⟨by decide, by decide⟩) hS hF (fun ad1 H1 locs1 had hP1 hD1 hk hS1 => ?_)
  replace hD1 := hD1.weaken (fun k q _ h => hF q.1 h)
  clear hP hD hF hk hS
  subst had
  have hP := hP1
  have hD := hD1
  have hS := hS1
  clear hP1 hD1 hS1
  refine lv_astore_n (k := 1) (lv' := [(1, .ref (ad1 20)), (0, .ref b)]) hx hb (show decode code 7 = .ok (.astore_n 1, 1) by decide +kernel) rfl hl (by decide) rfl (fun la hl => ?_)
  refine va_new (ci := 4) (fs := [.null, .int 0, .null, .null, .null, .null, .null, .null, .int 0, .int 0, .null, .null, .null, .null, .null, .int 0, .int 0, .int 0, .int 0, .int 0, .null, .int 0, .null, .null, .int 0, .long 0, .int 0]) (C := R_M) (T := F_M) (N := 27) hx hb hts u_M t_M t_M_ok hown (hts _ (tb2 (i := 194) rfl rfl)) (hts _ (tb2 (i := 195) rfl rfl)) (hts _ (tb1 (i := 6) rfl rfl)) hK hP hD hS (fun q h => h) rfl (fun j hj => by have hj : j < 27 := hj; match j, hj with | 0, _ => rfl | 1, _ => rfl | 2, _ => rfl | 3, _ => rfl | 4, _ => rfl | 5, _ => rfl | 6, _ => rfl | 7, _ => rfl | 8, _ => rfl | 9, _ => rfl | 10, _ => rfl | 11, _ => rfl | 12, _ => rfl | 13, _ => rfl | 14, _ => rfl | 15, _ => rfl | 16, _ => rfl | 17, _ => rfl | 18, _ => rfl | 19, _ => rfl | 20, _ => rfl | 21, _ => rfl | 22, _ => rfl | 23, _ => rfl | 24, _ => rfl | 25, _ => rfl | 26, _ => rfl | j + 27, hj => exact absurd hj (by omega)) (by decide) (by decide) (show decode code 8 = .ok (.new 10, 3) by decide +kernel) (fun q2 H hP hD hS => ?_)
  refine lv_dup hx hb (show decode code 11 = .ok (.dup, 1) by decide +kernel) rfl ?_
  have hPs : va_P D vwCl [(q2, .inr (4, [.null, .int 0, .null, .null, .null, .null, .null, .null, .int 0, .int 0, .null, .null, .null, .null, .null, .int 0, .int 0, .int 0, .int 0, .int 0, .null, .int 0, .null, .null, .int 0, .long 0, .int 0]))] H := hP.sub [21] rfl
  have hDs : va_D (lA s) [(q2, .inr (4, [.null, .int 0, .null, .null, .null, .null, .null, .null, .int 0, .int 0, .null, .null, .null, .null, .null, .int 0, .int 0, .int 0, .int 0, .int 0, .null, .int 0, .null, .null, .int 0, .long 0, .int 0]))] := hD.sub [21] rfl rfl
  have hF : ∀ q, va_A [(q2, .inr (4, [.null, .int 0, .null, .null, .null, .null, .null, .null, .int 0, .int 0, .null, .null, .null, .null, .null, .int 0, .int 0, .int 0, .int 0, .int 0, .null, .int 0, .null, .null, .int 0, .long 0, .int 0]))] H.size q → lA s q := fun q h => h.elim (fun ⟨k, e, he⟩ => hDs.2 k (q, e) he) (fun h => Nat.le_trans hS.1 h)
  refine ycall (A := lA s) (va_runI (As := []) (rest := [.ref q2]) (b := q2) ⟨hx, hb, hml, hown, hts⟩ (c_M_init l D tc q2 H.size) ⟨callB_of (R := room_1) (rm := { frames := 1, cells := 15, slots := 681, locals := 40 }) (ws' := wsG) 0 hts (ygood (tb2 (i := 198) rfl rfl)) rfl rfl rfl (hts _ (tb1 (i := 6) rfl rfl)) (hts _ (tb2 (i := 196) rfl rfl)) ⟨by decide, by decide, by decide +kernel⟩ ⟨by decide, by decide⟩, rfl, hts _ (tb2 (i := 197) rfl rfl)⟩ ⟨yblind, ypre hK hPs hDs⟩ rfl rfl hl.1 rfl (lv_room (Nat.le_of_ble_eq_true rfl)) (show decode code 12 = .ok (.invokespecial 12, 3) by decide +kernel) ⟨by decide, by decide⟩) hS hF (fun ad2 H1 locs1 had hP1 hD1 hk hS1 => ?_)
  have hJ := va_join (wr := xz tc ad1 0 (wA zI s0 m0 (-1) 0 0 0)) hP hD [21] [0, 1, 2, 3, 4, 5, 6, 7, 8, 9, 10, 11, 12, 13, 14, 15, 16, 17, 18, 19, 20] rfl rfl rfl (by decide) hk hF hP1 hD1
  clear hP hD hPs hDs hF hk hP1 hD1 hS
  subst had
  refine lv_astore_n (k := 2) (lv' := [(2, .ref (ad2 0)), (1, .ref (ad1 20)), (0, .ref b)]) hx hb (show decode code 15 = .ok (.astore_n 2, 1) by decide +kernel) rfl hl (by decide) rfl (fun la hl => ?_)
  refine lv_iconst (v := nI 0) hx hb (show decode code 16 = .ok (.iconst 0, 1) by decide +kernel) rfl ?_
  refine lv_istore_n (k := 3) (lv' := [(3, .int (nI 0)), (2, .ref (ad2 0)), (1, .ref (ad1 20)), (0, .ref b)]) hx hb (show decode code 17 = .ok (.istore_n 3, 1) by decide +kernel) rfl hl (by decide) rfl (fun la hl => ?_)
  exact lloop (p := p) (e := e) (below := below) (J := J) (adX := ad1) (adM := ad2) ⟨hx, hb, hr, hml, hown, hts, hX, hbl, hlocks, hK, hL⟩ O L 0 (by omega) (by omega) (wA zI s0 m0 (-1) 0 0 0) (vM (fun _ _ => 0) 0) H1 locs1 la hJ0 hl ⟨hJ.1, hJ.2, hS1⟩
