/-! The law: its cases and its loop -/
theorem lbool {p : Program} {l : Launch} {e : Env} {s : State} {m : MethodId} {args : Array Value} {below : List Frame} {meth : Method} {c : Code} {H : Heap} {locs : List Loc} {Q : State → Prop} {la : Array Slot} {st : List Value} {pc : Nat} {x : Int32} (hx : p.tables.exec = Jvm.exec) (hb : c.code = code) (d0 : decode code pc = .ok (.ifCond .eq 7, 3)) (d3 : decode code (pc + 3) = .ok (.iconst 1, 1)) (d4 : decode code (pc + 4) = .ok (.goto 4, 3)) (d7 : decode code (pc + 7) = .ok (.iconst 0, 1))
    (kk : lW p l e s m args below meth c H locs Q (pc + 8) la (.int (if x = 0 then 0 else 1) :: st)) : lW p l e s m args below meth c H locs Q pc la (.int x :: st) := by
  refine lv_if_eq (tgt := pc + 7) hx hb d0 rfl (fun h => ?_) (fun h => ?_)
  · rw [if_pos h] at kk
    exact lv_iconst (v := 0) hx hb d7 rfl kk
  · rw [if_neg h] at kk
    refine lv_iconst (v := 1) hx hb d3 rfl ?_
    exact lv_goto (tgt := pc + 8) hx hb d4 rfl kk
/-- one call, on both sides, with one answer -/
def JOp (l : Launch) (J : List va_E → List va_E → Prop) (qx qm : XI) (as : List Value) (K : Option Value → Prop) : Prop := ∀ X Y, J X Y → ∃ (dx dm : Nat) (r : Option Value) (X' Y' : List va_E), (dx ≤ 7 ∧ dm ≤ 7) ∧ XMet l dx qx (.ref 20 :: as) X r X' ∧ XMet l dm qm (.ref 0 :: as) Y r Y' ∧ J X' Y' ∧ K r
def isI (r : Option Value) : Prop := ∃ k : Int32, r = some (.int k)

def LawOps (l : Launch) (J : List va_E → List va_E → Prop) : Prop := (∀ X Y, J X Y → ∃ fs, X[20]? = some (.inr (3, fs))) ∧ (∀ X Y, J X Y → ∃ fs, Y[0]? = some (.inr (4, fs))) ∧ (∀ (a0 : Int64), JOp l J q_N_type q_M_type [.long a0] isI) ∧ (JOp l J q_N_wipe q_M_wipe [] (fun r => r = none)) ∧ (JOp l J q_N_length q_M_length [] isI) ∧ (∀ (a0 : Int32) (a1 : Int32), (a1 = 0 ∨ a1 = 1) → JOp l J q_N_declare q_M_declare [.int a0, .int a1] isI) ∧ (JOp l J q_N_statements q_M_statements [] isI) ∧ (JOp l J q_N_alarms q_M_alarms [] isI) ∧ (∀ (a0 : Int32), JOp l J q_N_alarm q_M_alarm [.int a0] isI) ∧ (∀ (a0 : Int32) (a1 : Int32), JOp l J q_N_sure q_M_sure [.int a0, .int a1] isI) ∧ (∀ (a0 : Int32) (a1 : Int32), JOp l J q_N_linked q_M_linked [.int a0, .int a1] isI) ∧ (∀ (a0 : Int32) (a1 : Int64), JOp l J q_N_run q_M_run [.int a0, .long a1] isI) ∧ (∀ (a0 : Int32), JOp l J q_N_held q_M_held [.int a0] isI) ∧ (∀ (a0 : Int32) (a1 : Int32), JOp l J q_N_field q_M_field [.int a0, .int a1] isI) ∧ (JOp l J q_N_objects q_M_objects [] isI) ∧ (JOp l J q_N_steps q_M_steps [] isI)
section Law2
variable {p : Program} {l : Launch} {e : Env} {s : State} {m : MethodId} {args : Array Value} {below : List Frame} {meth : Method} {c : Code} {Q : State → Prop} {b L : Nat} {xs : Nat → Int32} {D : va_G} {tc adX adM : Nat → Nat} {J : List va_E → List va_E → Prop}
abbrev lI (tc adX adM : Nat → Nat) (D : va_G) (s : State) (X Y : List va_E) (H : Heap) (locs : List Loc) : Prop := va_P D vwCl (xz tc adX 0 X ++ xz tc adM 0 Y) H ∧ va_D (lA s) (xz tc adX 0 X ++ xz tc adM 0 Y) ∧ va_S (lA s) s.heap H locs
set_option maxHeartbeats 1000000 in
theorem lc_type {X Y : List va_E} {H : Heap} {locs : List Loc} {la : Array Slot} {i : Nat} (C0 : LC p s m args meth c b L xs D tc) (O : LawOps l J) (hl : lv_has la 4 [(3, .int (nI i)), (2, .ref (adM 0)), (1, .ref (adX 20)), (0, .ref b)]) (hi : i + 4 ≤ L) (hJ : J X Y) (hI : lI tc adX adM D s X Y H locs) (hN : ∀ (X Y : List va_E) (H : Heap) (locs : List Loc), J X Y → lI tc adX adM D s X Y H locs → lW p l e s m args below meth c H locs Q 490 la []) : lW p l e s m args below meth c H locs Q 104 la [] := by
  obtain ⟨hP, hD, hS⟩ := hI
  have hx := C0.1
  have hb := C0.2.1
  have hl0 := lv_at hl 3 rfl
  obtain ⟨fx, hfx⟩ := O.1 X Y hJ
  obtain ⟨fy, hfy⟩ := O.2.1 X Y hJ
  obtain ⟨dx, dm, r, X1, Y1, ⟨hdx, hdm⟩, hMx, hMm, hJ1, hr⟩ := O.2.2.1 (lLong (xs (i + 1)) (xs (i + 2))) X Y hJ
  obtain ⟨k, rfl⟩ := hr
  refine lv_aload_n (k := 1) hx hb (show decode code 104 = .ok (.aload_n 1, 1) by decide +kernel) rfl (lv_at hl 2 rfl) ?_
  refine llong (k := 1) C0 hS hl hl0 (by omega) (show decode code 105 = .ok (.aload_n 0, 1) by decide +kernel) (show decode code 106 = .ok (.iload_n 3, 1) by decide +kernel) (show decode code 107 = .ok (.iconst 1, 1) by decide +kernel) (show decode code 108 = .ok (.iadd, 1) by decide +kernel) (show decode code 109 = .ok (.iaload, 1) by decide +kernel) (show decode code 110 = .ok (.i2l, 1) by decide +kernel) (show decode code 111 = .ok (.bipush 32, 2) by decide +kernel) (show decode code 113 = .ok (.lshl, 1) by decide +kernel) (show decode code 114 = .ok (.aload_n 0, 1) by decide +kernel) (show decode code 115 = .ok (.iload_n 3, 1) by decide +kernel) (show decode code 116 = .ok (.iconst 2, 1) by decide +kernel) (show decode code 117 = .ok (.iadd, 1) by decide +kernel) (show decode code 118 = .ok (.iaload, 1) by decide +kernel) (show decode code 119 = .ok (.i2l, 1) by decide +kernel) (show decode code 120 = .ok (.ldc2_w 13, 3) by decide +kernel) (show decode code 123 = .ok (.land, 1) by decide +kernel) (show decode code 124 = .ok (.lor, 1) by decide +kernel) ?_
  refine lop (ad := adX) (n := 1) (idx := 15) (k := 20) (rest := []) C0 hl hS hP hD hMx hdx hfx (⟨tb1 (i := 232) rfl rfl, tb1 (i := 1) rfl rfl, ⟨by decide, by decide, by decide +kernel⟩, by decide, tb1 (i := 229) rfl rfl, tb1 (i := 230) rfl rfl, tb1 (i := 231) rfl rfl, F_N, 5, rfl⟩) rfl rfl (Nat.le_of_ble_eq_true rfl) (show decode code 125 = .ok (.invokevirtual 15, 3) by decide +kernel) (fun H1 locs1 hP1 hD1 hS1 => ?_)
  refine lv_aload_n (k := 2) hx hb (show decode code 128 = .ok (.aload_n 2, 1) by decide +kernel) rfl (lv_at hl 1 rfl) ?_
  refine llong (k := 1) C0 hS1 hl hl0 (by omega) (show decode code 129 = .ok (.aload_n 0, 1) by decide +kernel) (show decode code 130 = .ok (.iload_n 3, 1) by decide +kernel) (show decode code 131 = .ok (.iconst 1, 1) by decide +kernel) (show decode code 132 = .ok (.iadd, 1) by decide +kernel) (show decode code 133 = .ok (.iaload, 1) by decide +kernel) (show decode code 134 = .ok (.i2l, 1) by decide +kernel) (show decode code 135 = .ok (.bipush 32, 2) by decide +kernel) (show decode code 137 = .ok (.lshl, 1) by decide +kernel) (show decode code 138 = .ok (.aload_n 0, 1) by decide +kernel) (show decode code 139 = .ok (.iload_n 3, 1) by decide +kernel) (show decode code 140 = .ok (.iconst 2, 1) by decide +kernel) (show decode code 141 = .ok (.iadd, 1) by decide +kernel) (show decode code 142 = .ok (.iaload, 1) by decide +kernel) (show decode code 143 = .ok (.i2l, 1) by decide +kernel) (show decode code 144 = .ok (.ldc2_w 13, 3) by decide +kernel) (show decode code 147 = .ok (.land, 1) by decide +kernel) (show decode code 148 = .ok (.lor, 1) by decide +kernel) ?_
  refine lop (ad := adM) (n := 1) (idx := 19) (k := 0) (rest := [.int k]) C0 hl hS1 hP1 hD1 hMm hdm hfy (⟨tb3 (i := 45) rfl rfl, tb1 (i := 6) rfl rfl, ⟨by decide, by decide, by decide +kernel⟩, by decide, tb3 (i := 42) rfl rfl, tb3 (i := 43) rfl rfl, tb3 (i := 44) rfl rfl, F_M, 27, rfl⟩) rfl rfl (Nat.le_of_ble_eq_true rfl) (show decode code 149 = .ok (.invokevirtual 19, 3) by decide +kernel) (fun H2 locs2 hP2 hD2 hS2 => ?_)
  exact lv_icmp_eq (tgt := 490) hx hb (show decode code 152 = .ok (.if_icmp .eq 338, 3) by decide +kernel) rfl (fun _ => hN _ _ _ _ hJ1 ⟨hP2, hD2, hS2⟩) (fun h => absurd rfl h)
set_option maxHeartbeats 1000000 in
theorem lc_wipe {X Y : List va_E} {H : Heap} {locs : List Loc} {la : Array Slot} {i : Nat} (C0 : LC p s m args meth c b L xs D tc) (O : LawOps l J) (hl : lv_has la 4 [(3, .int (nI i)), (2, .ref (adM 0)), (1, .ref (adX 20)), (0, .ref b)]) (hi : i + 4 ≤ L) (hJ : J X Y) (hI : lI tc adX adM D s X Y H locs) (hN : ∀ (X Y : List va_E) (H : Heap) (locs : List Loc), J X Y → lI tc adX adM D s X Y H locs → lW p l e s m args below meth c H locs Q 490 la []) : lW p l e s m args below meth c H locs Q 157 la [] := by
  obtain ⟨hP, hD, hS⟩ := hI
  have hx := C0.1
  have hb := C0.2.1
  have hl0 := lv_at hl 3 rfl
  obtain ⟨fx, hfx⟩ := O.1 X Y hJ
  obtain ⟨fy, hfy⟩ := O.2.1 X Y hJ
  obtain ⟨dx, dm, r, X1, Y1, ⟨hdx, hdm⟩, hMx, hMm, hJ1, hr⟩ := O.2.2.2.1  X Y hJ
  subst hr
  refine lv_aload_n (k := 1) hx hb (show decode code 157 = .ok (.aload_n 1, 1) by decide +kernel) rfl (lv_at hl 2 rfl) ?_
  refine lop (ad := adX) (n := 0) (idx := 20) (k := 20) (rest := []) C0 hl hS hP hD hMx hdx hfx (⟨tb2 (i := 7) rfl rfl, tb1 (i := 1) rfl rfl, ⟨by decide, by decide, by decide +kernel⟩, by decide, tb2 (i := 4) rfl rfl, tb2 (i := 5) rfl rfl, tb2 (i := 6) rfl rfl, F_N, 5, rfl⟩) rfl rfl (Nat.le_of_ble_eq_true rfl) (show decode code 158 = .ok (.invokevirtual 20, 3) by decide +kernel) (fun H1 locs1 hP1 hD1 hS1 => ?_)
  refine lv_aload_n (k := 2) hx hb (show decode code 161 = .ok (.aload_n 2, 1) by decide +kernel) rfl (lv_at hl 1 rfl) ?_
  refine lop (ad := adM) (n := 0) (idx := 23) (k := 0) (rest := []) C0 hl hS1 hP1 hD1 hMm hdm hfy (⟨tb3 (i := 49) rfl rfl, tb1 (i := 6) rfl rfl, ⟨by decide, by decide, by decide +kernel⟩, by decide, tb3 (i := 46) rfl rfl, tb3 (i := 47) rfl rfl, tb3 (i := 48) rfl rfl, F_M, 27, rfl⟩) rfl rfl (Nat.le_of_ble_eq_true rfl) (show decode code 162 = .ok (.invokevirtual 23, 3) by decide +kernel) (fun H2 locs2 hP2 hD2 hS2 => ?_)
  exact lv_goto (tgt := 490) hx hb (show decode code 165 = .ok (.goto 325, 3) by decide +kernel) rfl (hN _ _ _ _ hJ1 ⟨hP2, hD2, hS2⟩)
set_option maxHeartbeats 1000000 in
theorem lc_length {X Y : List va_E} {H : Heap} {locs : List Loc} {la : Array Slot} {i : Nat} (C0 : LC p s m args meth c b L xs D tc) (O : LawOps l J) (hl : lv_has la 4 [(3, .int (nI i)), (2, .ref (adM 0)), (1, .ref (adX 20)), (0, .ref b)]) (hi : i + 4 ≤ L) (hJ : J X Y) (hI : lI tc adX adM D s X Y H locs) (hN : ∀ (X Y : List va_E) (H : Heap) (locs : List Loc), J X Y → lI tc adX adM D s X Y H locs → lW p l e s m args below meth c H locs Q 490 la []) : lW p l e s m args below meth c H locs Q 168 la [] := by
  obtain ⟨hP, hD, hS⟩ := hI
  have hx := C0.1
  have hb := C0.2.1
  have hl0 := lv_at hl 3 rfl
  obtain ⟨fx, hfx⟩ := O.1 X Y hJ
  obtain ⟨fy, hfy⟩ := O.2.1 X Y hJ
  obtain ⟨dx, dm, r, X1, Y1, ⟨hdx, hdm⟩, hMx, hMm, hJ1, hr⟩ := O.2.2.2.2.1  X Y hJ
  obtain ⟨k, rfl⟩ := hr
  refine lv_aload_n (k := 1) hx hb (show decode code 168 = .ok (.aload_n 1, 1) by decide +kernel) rfl (lv_at hl 2 rfl) ?_
  refine lop (ad := adX) (n := 0) (idx := 24) (k := 20) (rest := []) C0 hl hS hP hD hMx hdx hfx (⟨tb2 (i := 15) rfl rfl, tb1 (i := 1) rfl rfl, ⟨by decide, by decide, by decide +kernel⟩, by decide, tb2 (i := 12) rfl rfl, tb2 (i := 13) rfl rfl, tb2 (i := 14) rfl rfl, F_N, 5, rfl⟩) rfl rfl (Nat.le_of_ble_eq_true rfl) (show decode code 169 = .ok (.invokevirtual 24, 3) by decide +kernel) (fun H1 locs1 hP1 hD1 hS1 => ?_)
  refine lv_aload_n (k := 2) hx hb (show decode code 172 = .ok (.aload_n 2, 1) by decide +kernel) rfl (lv_at hl 1 rfl) ?_
  refine lop (ad := adM) (n := 0) (idx := 28) (k := 0) (rest := [.int k]) C0 hl hS1 hP1 hD1 hMm hdm hfy (⟨tb3 (i := 53) rfl rfl, tb1 (i := 6) rfl rfl, ⟨by decide, by decide, by decide +kernel⟩, by decide, tb3 (i := 50) rfl rfl, tb3 (i := 51) rfl rfl, tb3 (i := 52) rfl rfl, F_M, 27, rfl⟩) rfl rfl (Nat.le_of_ble_eq_true rfl) (show decode code 173 = .ok (.invokevirtual 28, 3) by decide +kernel) (fun H2 locs2 hP2 hD2 hS2 => ?_)
  exact lv_icmp_eq (tgt := 490) hx hb (show decode code 176 = .ok (.if_icmp .eq 314, 3) by decide +kernel) rfl (fun _ => hN _ _ _ _ hJ1 ⟨hP2, hD2, hS2⟩) (fun h => absurd rfl h)
set_option maxHeartbeats 1000000 in
theorem lc_declare {X Y : List va_E} {H : Heap} {locs : List Loc} {la : Array Slot} {i : Nat} (C0 : LC p s m args meth c b L xs D tc) (O : LawOps l J) (hl : lv_has la 4 [(3, .int (nI i)), (2, .ref (adM 0)), (1, .ref (adX 20)), (0, .ref b)]) (hi : i + 4 ≤ L) (hJ : J X Y) (hI : lI tc adX adM D s X Y H locs) (hN : ∀ (X Y : List va_E) (H : Heap) (locs : List Loc), J X Y → lI tc adX adM D s X Y H locs → lW p l e s m args below meth c H locs Q 490 la []) : lW p l e s m args below meth c H locs Q 181 la [] := by
  obtain ⟨hP, hD, hS⟩ := hI
  have hx := C0.1
  have hb := C0.2.1
  have hl0 := lv_at hl 3 rfl
  obtain ⟨fx, hfx⟩ := O.1 X Y hJ
  obtain ⟨fy, hfy⟩ := O.2.1 X Y hJ
  obtain ⟨dx, dm, r, X1, Y1, ⟨hdx, hdm⟩, hMx, hMm, hJ1, hr⟩ := O.2.2.2.2.2.1 (xs (i + 1)) (if xs (i + 2) = 0 then 0 else 1) (by by_cases h : xs (i + 2) = 0 <;> simp [h]) X Y hJ
  obtain ⟨k, rfl⟩ := hr
  refine lv_aload_n (k := 1) hx hb (show decode code 181 = .ok (.aload_n 1, 1) by decide +kernel) rfl (lv_at hl 2 rfl) ?_
  refine larg (k := 1) C0 hS hl hl0 (by omega) (show decode code 182 = .ok (.aload_n 0, 1) by decide +kernel) (show decode code 183 = .ok (.iload_n 3, 1) by decide +kernel) (show decode code 184 = .ok (.iconst 1, 1) by decide +kernel) (show decode code 185 = .ok (.iadd, 1) by decide +kernel) (show decode code 186 = .ok (.iaload, 1) by decide +kernel) ?_
  refine larg (k := 2) C0 hS hl hl0 (by omega) (show decode code 187 = .ok (.aload_n 0, 1) by decide +kernel) (show decode code 188 = .ok (.iload_n 3, 1) by decide +kernel) (show decode code 189 = .ok (.iconst 2, 1) by decide +kernel) (show decode code 190 = .ok (.iadd, 1) by decide +kernel) (show decode code 191 = .ok (.iaload, 1) by decide +kernel) ?_
  refine lbool hx hb (show decode code 192 = .ok (.ifCond .eq 7, 3) by decide +kernel) (show decode code 195 = .ok (.iconst 1, 1) by decide +kernel) (show decode code 196 = .ok (.goto 4, 3) by decide +kernel) (show decode code 199 = .ok (.iconst 0, 1) by decide +kernel) ?_
  refine lop (ad := adX) (n := 2) (idx := 29) (k := 20) (rest := []) C0 hl hS hP hD hMx hdx hfx (⟨tb2 (i := 19) rfl rfl, tb1 (i := 1) rfl rfl, ⟨by decide, by decide, by decide +kernel⟩, by decide, tb2 (i := 16) rfl rfl, tb2 (i := 17) rfl rfl, tb2 (i := 18) rfl rfl, F_N, 5, rfl⟩) rfl rfl (Nat.le_of_ble_eq_true rfl) (show decode code 200 = .ok (.invokevirtual 29, 3) by decide +kernel) (fun H1 locs1 hP1 hD1 hS1 => ?_)
  refine lv_aload_n (k := 2) hx hb (show decode code 203 = .ok (.aload_n 2, 1) by decide +kernel) rfl (lv_at hl 1 rfl) ?_
  refine larg (k := 1) C0 hS1 hl hl0 (by omega) (show decode code 204 = .ok (.aload_n 0, 1) by decide +kernel) (show decode code 205 = .ok (.iload_n 3, 1) by decide +kernel) (show decode code 206 = .ok (.iconst 1, 1) by decide +kernel) (show decode code 207 = .ok (.iadd, 1) by decide +kernel) (show decode code 208 = .ok (.iaload, 1) by decide +kernel) ?_
  refine larg (k := 2) C0 hS1 hl hl0 (by omega) (show decode code 209 = .ok (.aload_n 0, 1) by decide +kernel) (show decode code 210 = .ok (.iload_n 3, 1) by decide +kernel) (show decode code 211 = .ok (.iconst 2, 1) by decide +kernel) (show decode code 212 = .ok (.iadd, 1) by decide +kernel) (show decode code 213 = .ok (.iaload, 1) by decide +kernel) ?_
  refine lbool hx hb (show decode code 214 = .ok (.ifCond .eq 7, 3) by decide +kernel) (show decode code 217 = .ok (.iconst 1, 1) by decide +kernel) (show decode code 218 = .ok (.goto 4, 3) by decide +kernel) (show decode code 221 = .ok (.iconst 0, 1) by decide +kernel) ?_
  refine lop (ad := adM) (n := 2) (idx := 33) (k := 0) (rest := [.int k]) C0 hl hS1 hP1 hD1 hMm hdm hfy (⟨tb3 (i := 57) rfl rfl, tb1 (i := 6) rfl rfl, ⟨by decide, by decide, by decide +kernel⟩, by decide, tb3 (i := 54) rfl rfl, tb3 (i := 55) rfl rfl, tb3 (i := 56) rfl rfl, F_M, 27, rfl⟩) rfl rfl (Nat.le_of_ble_eq_true rfl) (show decode code 222 = .ok (.invokevirtual 33, 3) by decide +kernel) (fun H2 locs2 hP2 hD2 hS2 => ?_)
  exact lv_icmp_eq (tgt := 490) hx hb (show decode code 225 = .ok (.if_icmp .eq 265, 3) by decide +kernel) rfl (fun _ => hN _ _ _ _ hJ1 ⟨hP2, hD2, hS2⟩) (fun h => absurd rfl h)
set_option maxHeartbeats 1000000 in
theorem lc_statements {X Y : List va_E} {H : Heap} {locs : List Loc} {la : Array Slot} {i : Nat} (C0 : LC p s m args meth c b L xs D tc) (O : LawOps l J) (hl : lv_has la 4 [(3, .int (nI i)), (2, .ref (adM 0)), (1, .ref (adX 20)), (0, .ref b)]) (hi : i + 4 ≤ L) (hJ : J X Y) (hI : lI tc adX adM D s X Y H locs) (hN : ∀ (X Y : List va_E) (H : Heap) (locs : List Loc), J X Y → lI tc adX adM D s X Y H locs → lW p l e s m args below meth c H locs Q 490 la []) : lW p l e s m args below meth c H locs Q 230 la [] := by
  obtain ⟨hP, hD, hS⟩ := hI
  have hx := C0.1
  have hb := C0.2.1
  have hl0 := lv_at hl 3 rfl
  obtain ⟨fx, hfx⟩ := O.1 X Y hJ
  obtain ⟨fy, hfy⟩ := O.2.1 X Y hJ
  obtain ⟨dx, dm, r, X1, Y1, ⟨hdx, hdm⟩, hMx, hMm, hJ1, hr⟩ := O.2.2.2.2.2.2.1  X Y hJ
  obtain ⟨k, rfl⟩ := hr
  refine lv_aload_n (k := 1) hx hb (show decode code 230 = .ok (.aload_n 1, 1) by decide +kernel) rfl (lv_at hl 2 rfl) ?_
  refine lop (ad := adX) (n := 0) (idx := 34) (k := 20) (rest := []) C0 hl hS hP hD hMx hdx hfx (⟨tb2 (i := 26) rfl rfl, tb1 (i := 1) rfl rfl, ⟨by decide, by decide, by decide +kernel⟩, by decide, tb2 (i := 23) rfl rfl, tb2 (i := 24) rfl rfl, tb2 (i := 25) rfl rfl, F_N, 5, rfl⟩) rfl rfl (Nat.le_of_ble_eq_true rfl) (show decode code 231 = .ok (.invokevirtual 34, 3) by decide +kernel) (fun H1 locs1 hP1 hD1 hS1 => ?_)
  refine lv_aload_n (k := 2) hx hb (show decode code 234 = .ok (.aload_n 2, 1) by decide +kernel) rfl (lv_at hl 1 rfl) ?_
  refine lop (ad := adM) (n := 0) (idx := 37) (k := 0) (rest := [.int k]) C0 hl hS1 hP1 hD1 hMm hdm hfy (⟨tb3 (i := 61) rfl rfl, tb1 (i := 6) rfl rfl, ⟨by decide, by decide, by decide +kernel⟩, by decide, tb3 (i := 58) rfl rfl, tb3 (i := 59) rfl rfl, tb3 (i := 60) rfl rfl, F_M, 27, rfl⟩) rfl rfl (Nat.le_of_ble_eq_true rfl) (show decode code 235 = .ok (.invokevirtual 37, 3) by decide +kernel) (fun H2 locs2 hP2 hD2 hS2 => ?_)
  exact lv_icmp_eq (tgt := 490) hx hb (show decode code 238 = .ok (.if_icmp .eq 252, 3) by decide +kernel) rfl (fun _ => hN _ _ _ _ hJ1 ⟨hP2, hD2, hS2⟩) (fun h => absurd rfl h)
set_option maxHeartbeats 1000000 in
theorem lc_alarms {X Y : List va_E} {H : Heap} {locs : List Loc} {la : Array Slot} {i : Nat} (C0 : LC p s m args meth c b L xs D tc) (O : LawOps l J) (hl : lv_has la 4 [(3, .int (nI i)), (2, .ref (adM 0)), (1, .ref (adX 20)), (0, .ref b)]) (hi : i + 4 ≤ L) (hJ : J X Y) (hI : lI tc adX adM D s X Y H locs) (hN : ∀ (X Y : List va_E) (H : Heap) (locs : List Loc), J X Y → lI tc adX adM D s X Y H locs → lW p l e s m args below meth c H locs Q 490 la []) : lW p l e s m args below meth c H locs Q 243 la [] := by
  obtain ⟨hP, hD, hS⟩ := hI
  have hx := C0.1
  have hb := C0.2.1
  have hl0 := lv_at hl 3 rfl
  obtain ⟨fx, hfx⟩ := O.1 X Y hJ
  obtain ⟨fy, hfy⟩ := O.2.1 X Y hJ
  obtain ⟨dx, dm, r, X1, Y1, ⟨hdx, hdm⟩, hMx, hMm, hJ1, hr⟩ := O.2.2.2.2.2.2.2.1  X Y hJ
  obtain ⟨k, rfl⟩ := hr
  refine lv_aload_n (k := 1) hx hb (show decode code 243 = .ok (.aload_n 1, 1) by decide +kernel) rfl (lv_at hl 2 rfl) ?_
  refine lop (ad := adX) (n := 0) (idx := 38) (k := 20) (rest := []) C0 hl hS hP hD hMx hdx hfx (⟨tb2 (i := 30) rfl rfl, tb1 (i := 1) rfl rfl, ⟨by decide, by decide, by decide +kernel⟩, by decide, tb2 (i := 27) rfl rfl, tb2 (i := 28) rfl rfl, tb2 (i := 29) rfl rfl, F_N, 5, rfl⟩) rfl rfl (Nat.le_of_ble_eq_true rfl) (show decode code 244 = .ok (.invokevirtual 38, 3) by decide +kernel) (fun H1 locs1 hP1 hD1 hS1 => ?_)
  refine lv_aload_n (k := 2) hx hb (show decode code 247 = .ok (.aload_n 2, 1) by decide +kernel) rfl (lv_at hl 1 rfl) ?_
  refine lop (ad := adM) (n := 0) (idx := 41) (k := 0) (rest := [.int k]) C0 hl hS1 hP1 hD1 hMm hdm hfy (⟨tb3 (i := 105) rfl rfl, tb1 (i := 6) rfl rfl, ⟨by decide, by decide, by decide +kernel⟩, by decide, tb3 (i := 102) rfl rfl, tb3 (i := 103) rfl rfl, tb3 (i := 104) rfl rfl, F_M, 27, rfl⟩) rfl rfl (Nat.le_of_ble_eq_true rfl) (show decode code 248 = .ok (.invokevirtual 41, 3) by decide +kernel) (fun H2 locs2 hP2 hD2 hS2 => ?_)
  exact lv_icmp_eq (tgt := 490) hx hb (show decode code 251 = .ok (.if_icmp .eq 239, 3) by decide +kernel) rfl (fun _ => hN _ _ _ _ hJ1 ⟨hP2, hD2, hS2⟩) (fun h => absurd rfl h)
set_option maxHeartbeats 1000000 in
theorem lc_alarm {X Y : List va_E} {H : Heap} {locs : List Loc} {la : Array Slot} {i : Nat} (C0 : LC p s m args meth c b L xs D tc) (O : LawOps l J) (hl : lv_has la 4 [(3, .int (nI i)), (2, .ref (adM 0)), (1, .ref (adX 20)), (0, .ref b)]) (hi : i + 4 ≤ L) (hJ : J X Y) (hI : lI tc adX adM D s X Y H locs) (hN : ∀ (X Y : List va_E) (H : Heap) (locs : List Loc), J X Y → lI tc adX adM D s X Y H locs → lW p l e s m args below meth c H locs Q 490 la []) : lW p l e s m args below meth c H locs Q 256 la [] := by
  obtain ⟨hP, hD, hS⟩ := hI
  have hx := C0.1
  have hb := C0.2.1
  have hl0 := lv_at hl 3 rfl
  obtain ⟨fx, hfx⟩ := O.1 X Y hJ
  obtain ⟨fy, hfy⟩ := O.2.1 X Y hJ
  obtain ⟨dx, dm, r, X1, Y1, ⟨hdx, hdm⟩, hMx, hMm, hJ1, hr⟩ := O.2.2.2.2.2.2.2.2.1 (xs (i + 1)) X Y hJ
  obtain ⟨k, rfl⟩ := hr
  refine lv_aload_n (k := 1) hx hb (show decode code 256 = .ok (.aload_n 1, 1) by decide +kernel) rfl (lv_at hl 2 rfl) ?_
  refine larg (k := 1) C0 hS hl hl0 (by omega) (show decode code 257 = .ok (.aload_n 0, 1) by decide +kernel) (show decode code 258 = .ok (.iload_n 3, 1) by decide +kernel) (show decode code 259 = .ok (.iconst 1, 1) by decide +kernel) (show decode code 260 = .ok (.iadd, 1) by decide +kernel) (show decode code 261 = .ok (.iaload, 1) by decide +kernel) ?_
  refine lop (ad := adX) (n := 1) (idx := 42) (k := 20) (rest := []) C0 hl hS hP hD hMx hdx hfx (⟨tb2 (i := 101) rfl rfl, tb1 (i := 1) rfl rfl, ⟨by decide, by decide, by decide +kernel⟩, by decide, tb2 (i := 98) rfl rfl, tb2 (i := 99) rfl rfl, tb2 (i := 100) rfl rfl, F_N, 5, rfl⟩) rfl rfl (Nat.le_of_ble_eq_true rfl) (show decode code 262 = .ok (.invokevirtual 42, 3) by decide +kernel) (fun H1 locs1 hP1 hD1 hS1 => ?_)
  refine lv_aload_n (k := 2) hx hb (show decode code 265 = .ok (.aload_n 2, 1) by decide +kernel) rfl (lv_at hl 1 rfl) ?_
  refine larg (k := 1) C0 hS1 hl hl0 (by omega) (show decode code 266 = .ok (.aload_n 0, 1) by decide +kernel) (show decode code 267 = .ok (.iload_n 3, 1) by decide +kernel) (show decode code 268 = .ok (.iconst 1, 1) by decide +kernel) (show decode code 269 = .ok (.iadd, 1) by decide +kernel) (show decode code 270 = .ok (.iaload, 1) by decide +kernel) ?_
  refine lop (ad := adM) (n := 1) (idx := 46) (k := 0) (rest := [.int k]) C0 hl hS1 hP1 hD1 hMm hdm hfy (⟨tb3 (i := 152) rfl rfl, tb1 (i := 6) rfl rfl, ⟨by decide, by decide, by decide +kernel⟩, by decide, tb3 (i := 149) rfl rfl, tb3 (i := 150) rfl rfl, tb3 (i := 151) rfl rfl, F_M, 27, rfl⟩) rfl rfl (Nat.le_of_ble_eq_true rfl) (show decode code 271 = .ok (.invokevirtual 46, 3) by decide +kernel) (fun H2 locs2 hP2 hD2 hS2 => ?_)
  exact lv_icmp_eq (tgt := 490) hx hb (show decode code 274 = .ok (.if_icmp .eq 216, 3) by decide +kernel) rfl (fun _ => hN _ _ _ _ hJ1 ⟨hP2, hD2, hS2⟩) (fun h => absurd rfl h)
set_option maxHeartbeats 1000000 in
theorem lc_sure {X Y : List va_E} {H : Heap} {locs : List Loc} {la : Array Slot} {i : Nat} (C0 : LC p s m args meth c b L xs D tc) (O : LawOps l J) (hl : lv_has la 4 [(3, .int (nI i)), (2, .ref (adM 0)), (1, .ref (adX 20)), (0, .ref b)]) (hi : i + 4 ≤ L) (hJ : J X Y) (hI : lI tc adX adM D s X Y H locs) (hN : ∀ (X Y : List va_E) (H : Heap) (locs : List Loc), J X Y → lI tc adX adM D s X Y H locs → lW p l e s m args below meth c H locs Q 490 la []) : lW p l e s m args below meth c H locs Q 279 la [] := by
  obtain ⟨hP, hD, hS⟩ := hI
  have hx := C0.1
  have hb := C0.2.1
  have hl0 := lv_at hl 3 rfl
  obtain ⟨fx, hfx⟩ := O.1 X Y hJ
  obtain ⟨fy, hfy⟩ := O.2.1 X Y hJ
  obtain ⟨dx, dm, r, X1, Y1, ⟨hdx, hdm⟩, hMx, hMm, hJ1, hr⟩ := O.2.2.2.2.2.2.2.2.2.1 (xs (i + 1)) (xs (i + 2)) X Y hJ
  obtain ⟨k, rfl⟩ := hr
  refine lv_aload_n (k := 1) hx hb (show decode code 279 = .ok (.aload_n 1, 1) by decide +kernel) rfl (lv_at hl 2 rfl) ?_
  refine larg (k := 1) C0 hS hl hl0 (by omega) (show decode code 280 = .ok (.aload_n 0, 1) by decide +kernel) (show decode code 281 = .ok (.iload_n 3, 1) by decide +kernel) (show decode code 282 = .ok (.iconst 1, 1) by decide +kernel) (show decode code 283 = .ok (.iadd, 1) by decide +kernel) (show decode code 284 = .ok (.iaload, 1) by decide +kernel) ?_
  refine larg (k := 2) C0 hS hl hl0 (by omega) (show decode code 285 = .ok (.aload_n 0, 1) by decide +kernel) (show decode code 286 = .ok (.iload_n 3, 1) by decide +kernel) (show decode code 287 = .ok (.iconst 2, 1) by decide +kernel) (show decode code 288 = .ok (.iadd, 1) by decide +kernel) (show decode code 289 = .ok (.iaload, 1) by decide +kernel) ?_
  refine lop (ad := adX) (n := 2) (idx := 47) (k := 20) (rest := []) C0 hl hS hP hD hMx hdx hfx (⟨tb2 (i := 109) rfl rfl, tb1 (i := 1) rfl rfl, ⟨by decide, by decide, by decide +kernel⟩, by decide, tb2 (i := 106) rfl rfl, tb2 (i := 107) rfl rfl, tb2 (i := 108) rfl rfl, F_N, 5, rfl⟩) rfl rfl (Nat.le_of_ble_eq_true rfl) (show decode code 290 = .ok (.invokevirtual 47, 3) by decide +kernel) (fun H1 locs1 hP1 hD1 hS1 => ?_)
  refine lv_aload_n (k := 2) hx hb (show decode code 293 = .ok (.aload_n 2, 1) by decide +kernel) rfl (lv_at hl 1 rfl) ?_
  refine larg (k := 1) C0 hS1 hl hl0 (by omega) (show decode code 294 = .ok (.aload_n 0, 1) by decide +kernel) (show decode code 295 = .ok (.iload_n 3, 1) by decide +kernel) (show decode code 296 = .ok (.iconst 1, 1) by decide +kernel) (show decode code 297 = .ok (.iadd, 1) by decide +kernel) (show decode code 298 = .ok (.iaload, 1) by decide +kernel) ?_
  refine larg (k := 2) C0 hS1 hl hl0 (by omega) (show decode code 299 = .ok (.aload_n 0, 1) by decide +kernel) (show decode code 300 = .ok (.iload_n 3, 1) by decide +kernel) (show decode code 301 = .ok (.iconst 2, 1) by decide +kernel) (show decode code 302 = .ok (.iadd, 1) by decide +kernel) (show decode code 303 = .ok (.iaload, 1) by decide +kernel) ?_
  refine lop (ad := adM) (n := 2) (idx := 51) (k := 0) (rest := [.int k]) C0 hl hS1 hP1 hD1 hMm hdm hfy (⟨tb3 (i := 160) rfl rfl, tb1 (i := 6) rfl rfl, ⟨by decide, by decide, by decide +kernel⟩, by decide, tb3 (i := 157) rfl rfl, tb3 (i := 158) rfl rfl, tb3 (i := 159) rfl rfl, F_M, 27, rfl⟩) rfl rfl (Nat.le_of_ble_eq_true rfl) (show decode code 304 = .ok (.invokevirtual 51, 3) by decide +kernel) (fun H2 locs2 hP2 hD2 hS2 => ?_)
  exact lv_icmp_eq (tgt := 490) hx hb (show decode code 307 = .ok (.if_icmp .eq 183, 3) by decide +kernel) rfl (fun _ => hN _ _ _ _ hJ1 ⟨hP2, hD2, hS2⟩) (fun h => absurd rfl h)
set_option maxHeartbeats 1000000 in
theorem lc_linked {X Y : List va_E} {H : Heap} {locs : List Loc} {la : Array Slot} {i : Nat} (C0 : LC p s m args meth c b L xs D tc) (O : LawOps l J) (hl : lv_has la 4 [(3, .int (nI i)), (2, .ref (adM 0)), (1, .ref (adX 20)), (0, .ref b)]) (hi : i + 4 ≤ L) (hJ : J X Y) (hI : lI tc adX adM D s X Y H locs) (hN : ∀ (X Y : List va_E) (H : Heap) (locs : List Loc), J X Y → lI tc adX adM D s X Y H locs → lW p l e s m args below meth c H locs Q 490 la []) : lW p l e s m args below meth c H locs Q 312 la [] := by
  obtain ⟨hP, hD, hS⟩ := hI
  have hx := C0.1
  have hb := C0.2.1
  have hl0 := lv_at hl 3 rfl
  obtain ⟨fx, hfx⟩ := O.1 X Y hJ
  obtain ⟨fy, hfy⟩ := O.2.1 X Y hJ
  obtain ⟨dx, dm, r, X1, Y1, ⟨hdx, hdm⟩, hMx, hMm, hJ1, hr⟩ := O.2.2.2.2.2.2.2.2.2.2.1 (xs (i + 1)) (xs (i + 2)) X Y hJ
  obtain ⟨k, rfl⟩ := hr
  refine lv_aload_n (k := 1) hx hb (show decode code 312 = .ok (.aload_n 1, 1) by decide +kernel) rfl (lv_at hl 2 rfl) ?_
  refine larg (k := 1) C0 hS hl hl0 (by omega) (show decode code 313 = .ok (.aload_n 0, 1) by decide +kernel) (show decode code 314 = .ok (.iload_n 3, 1) by decide +kernel) (show decode code 315 = .ok (.iconst 1, 1) by decide +kernel) (show decode code 316 = .ok (.iadd, 1) by decide +kernel) (show decode code 317 = .ok (.iaload, 1) by decide +kernel) ?_
  refine larg (k := 2) C0 hS hl hl0 (by omega) (show decode code 318 = .ok (.aload_n 0, 1) by decide +kernel) (show decode code 319 = .ok (.iload_n 3, 1) by decide +kernel) (show decode code 320 = .ok (.iconst 2, 1) by decide +kernel) (show decode code 321 = .ok (.iadd, 1) by decide +kernel) (show decode code 322 = .ok (.iaload, 1) by decide +kernel) ?_
  refine lop (ad := adX) (n := 2) (idx := 52) (k := 20) (rest := []) C0 hl hS hP hD hMx hdx hfx (⟨tb2 (i := 118) rfl rfl, tb1 (i := 1) rfl rfl, ⟨by decide, by decide, by decide +kernel⟩, by decide, tb2 (i := 115) rfl rfl, tb2 (i := 116) rfl rfl, tb2 (i := 117) rfl rfl, F_N, 5, rfl⟩) rfl rfl (Nat.le_of_ble_eq_true rfl) (show decode code 323 = .ok (.invokevirtual 52, 3) by decide +kernel) (fun H1 locs1 hP1 hD1 hS1 => ?_)
  refine lv_aload_n (k := 2) hx hb (show decode code 326 = .ok (.aload_n 2, 1) by decide +kernel) rfl (lv_at hl 1 rfl) ?_
  refine larg (k := 1) C0 hS1 hl hl0 (by omega) (show decode code 327 = .ok (.aload_n 0, 1) by decide +kernel) (show decode code 328 = .ok (.iload_n 3, 1) by decide +kernel) (show decode code 329 = .ok (.iconst 1, 1) by decide +kernel) (show decode code 330 = .ok (.iadd, 1) by decide +kernel) (show decode code 331 = .ok (.iaload, 1) by decide +kernel) ?_
  refine larg (k := 2) C0 hS1 hl hl0 (by omega) (show decode code 332 = .ok (.aload_n 0, 1) by decide +kernel) (show decode code 333 = .ok (.iload_n 3, 1) by decide +kernel) (show decode code 334 = .ok (.iconst 2, 1) by decide +kernel) (show decode code 335 = .ok (.iadd, 1) by decide +kernel) (show decode code 336 = .ok (.iaload, 1) by decide +kernel) ?_
  refine lop (ad := adM) (n := 2) (idx := 56) (k := 0) (rest := [.int k]) C0 hl hS1 hP1 hD1 hMm hdm hfy (⟨tb3 (i := 164) rfl rfl, tb1 (i := 6) rfl rfl, ⟨by decide, by decide, by decide +kernel⟩, by decide, tb3 (i := 161) rfl rfl, tb3 (i := 162) rfl rfl, tb3 (i := 163) rfl rfl, F_M, 27, rfl⟩) rfl rfl (Nat.le_of_ble_eq_true rfl) (show decode code 337 = .ok (.invokevirtual 56, 3) by decide +kernel) (fun H2 locs2 hP2 hD2 hS2 => ?_)
  exact lv_icmp_eq (tgt := 490) hx hb (show decode code 340 = .ok (.if_icmp .eq 150, 3) by decide +kernel) rfl (fun _ => hN _ _ _ _ hJ1 ⟨hP2, hD2, hS2⟩) (fun h => absurd rfl h)
set_option maxHeartbeats 1000000 in
theorem lc_run {X Y : List va_E} {H : Heap} {locs : List Loc} {la : Array Slot} {i : Nat} (C0 : LC p s m args meth c b L xs D tc) (O : LawOps l J) (hl : lv_has la 4 [(3, .int (nI i)), (2, .ref (adM 0)), (1, .ref (adX 20)), (0, .ref b)]) (hi : i + 4 ≤ L) (hJ : J X Y) (hI : lI tc adX adM D s X Y H locs) (hN : ∀ (X Y : List va_E) (H : Heap) (locs : List Loc), J X Y → lI tc adX adM D s X Y H locs → lW p l e s m args below meth c H locs Q 490 la []) : lW p l e s m args below meth c H locs Q 345 la [] := by
  obtain ⟨hP, hD, hS⟩ := hI
  have hx := C0.1
  have hb := C0.2.1
  have hl0 := lv_at hl 3 rfl
  obtain ⟨fx, hfx⟩ := O.1 X Y hJ
  obtain ⟨fy, hfy⟩ := O.2.1 X Y hJ
  obtain ⟨dx, dm, r, X1, Y1, ⟨hdx, hdm⟩, hMx, hMm, hJ1, hr⟩ := O.2.2.2.2.2.2.2.2.2.2.2.1 (xs (i + 1)) (lLong (xs (i + 2)) (xs (i + 3))) X Y hJ
  obtain ⟨k, rfl⟩ := hr
  refine lv_aload_n (k := 1) hx hb (show decode code 345 = .ok (.aload_n 1, 1) by decide +kernel) rfl (lv_at hl 2 rfl) ?_
  refine larg (k := 1) C0 hS hl hl0 (by omega) (show decode code 346 = .ok (.aload_n 0, 1) by decide +kernel) (show decode code 347 = .ok (.iload_n 3, 1) by decide +kernel) (show decode code 348 = .ok (.iconst 1, 1) by decide +kernel) (show decode code 349 = .ok (.iadd, 1) by decide +kernel) (show decode code 350 = .ok (.iaload, 1) by decide +kernel) ?_
  refine llong (k := 2) C0 hS hl hl0 (by omega) (show decode code 351 = .ok (.aload_n 0, 1) by decide +kernel) (show decode code 352 = .ok (.iload_n 3, 1) by decide +kernel) (show decode code 353 = .ok (.iconst 2, 1) by decide +kernel) (show decode code 354 = .ok (.iadd, 1) by decide +kernel) (show decode code 355 = .ok (.iaload, 1) by decide +kernel) (show decode code 356 = .ok (.i2l, 1) by decide +kernel) (show decode code 357 = .ok (.bipush 32, 2) by decide +kernel) (show decode code 359 = .ok (.lshl, 1) by decide +kernel) (show decode code 360 = .ok (.aload_n 0, 1) by decide +kernel) (show decode code 361 = .ok (.iload_n 3, 1) by decide +kernel) (show decode code 362 = .ok (.iconst 3, 1) by decide +kernel) (show decode code 363 = .ok (.iadd, 1) by decide +kernel) (show decode code 364 = .ok (.iaload, 1) by decide +kernel) (show decode code 365 = .ok (.i2l, 1) by decide +kernel) (show decode code 366 = .ok (.ldc2_w 13, 3) by decide +kernel) (show decode code 369 = .ok (.land, 1) by decide +kernel) (show decode code 370 = .ok (.lor, 1) by decide +kernel) ?_
  refine lop (ad := adX) (n := 2) (idx := 57) (k := 20) (rest := []) C0 hl hS hP hD hMx hdx hfx (⟨tb2 (i := 126) rfl rfl, tb1 (i := 1) rfl rfl, ⟨by decide, by decide, by decide +kernel⟩, by decide, tb2 (i := 123) rfl rfl, tb2 (i := 124) rfl rfl, tb2 (i := 125) rfl rfl, F_N, 5, rfl⟩) rfl rfl (Nat.le_of_ble_eq_true rfl) (show decode code 371 = .ok (.invokevirtual 57, 3) by decide +kernel) (fun H1 locs1 hP1 hD1 hS1 => ?_)
  refine lv_aload_n (k := 2) hx hb (show decode code 374 = .ok (.aload_n 2, 1) by decide +kernel) rfl (lv_at hl 1 rfl) ?_
  refine larg (k := 1) C0 hS1 hl hl0 (by omega) (show decode code 375 = .ok (.aload_n 0, 1) by decide +kernel) (show decode code 376 = .ok (.iload_n 3, 1) by decide +kernel) (show decode code 377 = .ok (.iconst 1, 1) by decide +kernel) (show decode code 378 = .ok (.iadd, 1) by decide +kernel) (show decode code 379 = .ok (.iaload, 1) by decide +kernel) ?_
  refine llong (k := 2) C0 hS1 hl hl0 (by omega) (show decode code 380 = .ok (.aload_n 0, 1) by decide +kernel) (show decode code 381 = .ok (.iload_n 3, 1) by decide +kernel) (show decode code 382 = .ok (.iconst 2, 1) by decide +kernel) (show decode code 383 = .ok (.iadd, 1) by decide +kernel) (show decode code 384 = .ok (.iaload, 1) by decide +kernel) (show decode code 385 = .ok (.i2l, 1) by decide +kernel) (show decode code 386 = .ok (.bipush 32, 2) by decide +kernel) (show decode code 388 = .ok (.lshl, 1) by decide +kernel) (show decode code 389 = .ok (.aload_n 0, 1) by decide +kernel) (show decode code 390 = .ok (.iload_n 3, 1) by decide +kernel) (show decode code 391 = .ok (.iconst 3, 1) by decide +kernel) (show decode code 392 = .ok (.iadd, 1) by decide +kernel) (show decode code 393 = .ok (.iaload, 1) by decide +kernel) (show decode code 394 = .ok (.i2l, 1) by decide +kernel) (show decode code 395 = .ok (.ldc2_w 13, 3) by decide +kernel) (show decode code 398 = .ok (.land, 1) by decide +kernel) (show decode code 399 = .ok (.lor, 1) by decide +kernel) ?_
  refine lop (ad := adM) (n := 2) (idx := 61) (k := 0) (rest := [.int k]) C0 hl hS1 hP1 hD1 hMm hdm hfy (⟨tb3 (i := 168) rfl rfl, tb1 (i := 6) rfl rfl, ⟨by decide, by decide, by decide +kernel⟩, by decide, tb3 (i := 165) rfl rfl, tb3 (i := 166) rfl rfl, tb3 (i := 167) rfl rfl, F_M, 27, rfl⟩) rfl rfl (Nat.le_of_ble_eq_true rfl) (show decode code 400 = .ok (.invokevirtual 61, 3) by decide +kernel) (fun H2 locs2 hP2 hD2 hS2 => ?_)
  exact lv_icmp_eq (tgt := 490) hx hb (show decode code 403 = .ok (.if_icmp .eq 87, 3) by decide +kernel) rfl (fun _ => hN _ _ _ _ hJ1 ⟨hP2, hD2, hS2⟩) (fun h => absurd rfl h)
set_option maxHeartbeats 1000000 in
theorem lc_held {X Y : List va_E} {H : Heap} {locs : List Loc} {la : Array Slot} {i : Nat} (C0 : LC p s m args meth c b L xs D tc) (O : LawOps l J) (hl : lv_has la 4 [(3, .int (nI i)), (2, .ref (adM 0)), (1, .ref (adX 20)), (0, .ref b)]) (hi : i + 4 ≤ L) (hJ : J X Y) (hI : lI tc adX adM D s X Y H locs) (hN : ∀ (X Y : List va_E) (H : Heap) (locs : List Loc), J X Y → lI tc adX adM D s X Y H locs → lW p l e s m args below meth c H locs Q 490 la []) : lW p l e s m args below meth c H locs Q 408 la [] := by
  obtain ⟨hP, hD, hS⟩ := hI
  have hx := C0.1
  have hb := C0.2.1
  have hl0 := lv_at hl 3 rfl
  obtain ⟨fx, hfx⟩ := O.1 X Y hJ
  obtain ⟨fy, hfy⟩ := O.2.1 X Y hJ
  obtain ⟨dx, dm, r, X1, Y1, ⟨hdx, hdm⟩, hMx, hMm, hJ1, hr⟩ := O.2.2.2.2.2.2.2.2.2.2.2.2.1 (xs (i + 1)) X Y hJ
  obtain ⟨k, rfl⟩ := hr
  refine lv_aload_n (k := 1) hx hb (show decode code 408 = .ok (.aload_n 1, 1) by decide +kernel) rfl (lv_at hl 2 rfl) ?_
  refine larg (k := 1) C0 hS hl hl0 (by omega) (show decode code 409 = .ok (.aload_n 0, 1) by decide +kernel) (show decode code 410 = .ok (.iload_n 3, 1) by decide +kernel) (show decode code 411 = .ok (.iconst 1, 1) by decide +kernel) (show decode code 412 = .ok (.iadd, 1) by decide +kernel) (show decode code 413 = .ok (.iaload, 1) by decide +kernel) ?_
  refine lop (ad := adX) (n := 1) (idx := 62) (k := 20) (rest := []) C0 hl hS hP hD hMx hdx hfx (⟨tb2 (i := 181) rfl rfl, tb1 (i := 1) rfl rfl, ⟨by decide, by decide, by decide +kernel⟩, by decide, tb2 (i := 178) rfl rfl, tb2 (i := 179) rfl rfl, tb2 (i := 180) rfl rfl, F_N, 5, rfl⟩) rfl rfl (Nat.le_of_ble_eq_true rfl) (show decode code 414 = .ok (.invokevirtual 62, 3) by decide +kernel) (fun H1 locs1 hP1 hD1 hS1 => ?_)
  refine lv_aload_n (k := 2) hx hb (show decode code 417 = .ok (.aload_n 2, 1) by decide +kernel) rfl (lv_at hl 1 rfl) ?_
  refine larg (k := 1) C0 hS1 hl hl0 (by omega) (show decode code 418 = .ok (.aload_n 0, 1) by decide +kernel) (show decode code 419 = .ok (.iload_n 3, 1) by decide +kernel) (show decode code 420 = .ok (.iconst 1, 1) by decide +kernel) (show decode code 421 = .ok (.iadd, 1) by decide +kernel) (show decode code 422 = .ok (.iaload, 1) by decide +kernel) ?_
  refine lop (ad := adM) (n := 1) (idx := 65) (k := 0) (rest := [.int k]) C0 hl hS1 hP1 hD1 hMm hdm hfy (⟨tb3 (i := 200) rfl rfl, tb1 (i := 6) rfl rfl, ⟨by decide, by decide, by decide +kernel⟩, by decide, tb3 (i := 197) rfl rfl, tb3 (i := 198) rfl rfl, tb3 (i := 199) rfl rfl, F_M, 27, rfl⟩) rfl rfl (Nat.le_of_ble_eq_true rfl) (show decode code 423 = .ok (.invokevirtual 65, 3) by decide +kernel) (fun H2 locs2 hP2 hD2 hS2 => ?_)
  exact lv_icmp_eq (tgt := 490) hx hb (show decode code 426 = .ok (.if_icmp .eq 64, 3) by decide +kernel) rfl (fun _ => hN _ _ _ _ hJ1 ⟨hP2, hD2, hS2⟩) (fun h => absurd rfl h)
set_option maxHeartbeats 1000000 in
theorem lc_field {X Y : List va_E} {H : Heap} {locs : List Loc} {la : Array Slot} {i : Nat} (C0 : LC p s m args meth c b L xs D tc) (O : LawOps l J) (hl : lv_has la 4 [(3, .int (nI i)), (2, .ref (adM 0)), (1, .ref (adX 20)), (0, .ref b)]) (hi : i + 4 ≤ L) (hJ : J X Y) (hI : lI tc adX adM D s X Y H locs) (hN : ∀ (X Y : List va_E) (H : Heap) (locs : List Loc), J X Y → lI tc adX adM D s X Y H locs → lW p l e s m args below meth c H locs Q 490 la []) : lW p l e s m args below meth c H locs Q 431 la [] := by
  obtain ⟨hP, hD, hS⟩ := hI
  have hx := C0.1
  have hb := C0.2.1
  have hl0 := lv_at hl 3 rfl
  obtain ⟨fx, hfx⟩ := O.1 X Y hJ
  obtain ⟨fy, hfy⟩ := O.2.1 X Y hJ
  obtain ⟨dx, dm, r, X1, Y1, ⟨hdx, hdm⟩, hMx, hMm, hJ1, hr⟩ := O.2.2.2.2.2.2.2.2.2.2.2.2.2.1 (xs (i + 1)) (xs (i + 2)) X Y hJ
  obtain ⟨k, rfl⟩ := hr
  refine lv_aload_n (k := 1) hx hb (show decode code 431 = .ok (.aload_n 1, 1) by decide +kernel) rfl (lv_at hl 2 rfl) ?_
  refine larg (k := 1) C0 hS hl hl0 (by omega) (show decode code 432 = .ok (.aload_n 0, 1) by decide +kernel) (show decode code 433 = .ok (.iload_n 3, 1) by decide +kernel) (show decode code 434 = .ok (.iconst 1, 1) by decide +kernel) (show decode code 435 = .ok (.iadd, 1) by decide +kernel) (show decode code 436 = .ok (.iaload, 1) by decide +kernel) ?_
  refine larg (k := 2) C0 hS hl hl0 (by omega) (show decode code 437 = .ok (.aload_n 0, 1) by decide +kernel) (show decode code 438 = .ok (.iload_n 3, 1) by decide +kernel) (show decode code 439 = .ok (.iconst 2, 1) by decide +kernel) (show decode code 440 = .ok (.iadd, 1) by decide +kernel) (show decode code 441 = .ok (.iaload, 1) by decide +kernel) ?_
  refine lop (ad := adX) (n := 2) (idx := 66) (k := 20) (rest := []) C0 hl hS hP hD hMx hdx hfx (⟨tb2 (i := 185) rfl rfl, tb1 (i := 1) rfl rfl, ⟨by decide, by decide, by decide +kernel⟩, by decide, tb2 (i := 182) rfl rfl, tb2 (i := 183) rfl rfl, tb2 (i := 184) rfl rfl, F_N, 5, rfl⟩) rfl rfl (Nat.le_of_ble_eq_true rfl) (show decode code 442 = .ok (.invokevirtual 66, 3) by decide +kernel) (fun H1 locs1 hP1 hD1 hS1 => ?_)
  refine lv_aload_n (k := 2) hx hb (show decode code 445 = .ok (.aload_n 2, 1) by decide +kernel) rfl (lv_at hl 1 rfl) ?_
  refine larg (k := 1) C0 hS1 hl hl0 (by omega) (show decode code 446 = .ok (.aload_n 0, 1) by decide +kernel) (show decode code 447 = .ok (.iload_n 3, 1) by decide +kernel) (show decode code 448 = .ok (.iconst 1, 1) by decide +kernel) (show decode code 449 = .ok (.iadd, 1) by decide +kernel) (show decode code 450 = .ok (.iaload, 1) by decide +kernel) ?_
  refine larg (k := 2) C0 hS1 hl hl0 (by omega) (show decode code 451 = .ok (.aload_n 0, 1) by decide +kernel) (show decode code 452 = .ok (.iload_n 3, 1) by decide +kernel) (show decode code 453 = .ok (.iconst 2, 1) by decide +kernel) (show decode code 454 = .ok (.iadd, 1) by decide +kernel) (show decode code 455 = .ok (.iaload, 1) by decide +kernel) ?_
  refine lop (ad := adM) (n := 2) (idx := 69) (k := 0) (rest := [.int k]) C0 hl hS1 hP1 hD1 hMm hdm hfy (⟨tb3 (i := 204) rfl rfl, tb1 (i := 6) rfl rfl, ⟨by decide, by decide, by decide +kernel⟩, by decide, tb3 (i := 201) rfl rfl, tb3 (i := 202) rfl rfl, tb3 (i := 203) rfl rfl, F_M, 27, rfl⟩) rfl rfl (Nat.le_of_ble_eq_true rfl) (show decode code 456 = .ok (.invokevirtual 69, 3) by decide +kernel) (fun H2 locs2 hP2 hD2 hS2 => ?_)
  exact lv_icmp_eq (tgt := 490) hx hb (show decode code 459 = .ok (.if_icmp .eq 31, 3) by decide +kernel) rfl (fun _ => hN _ _ _ _ hJ1 ⟨hP2, hD2, hS2⟩) (fun h => absurd rfl h)
set_option maxHeartbeats 1000000 in
theorem lc_objects {X Y : List va_E} {H : Heap} {locs : List Loc} {la : Array Slot} {i : Nat} (C0 : LC p s m args meth c b L xs D tc) (O : LawOps l J) (hl : lv_has la 4 [(3, .int (nI i)), (2, .ref (adM 0)), (1, .ref (adX 20)), (0, .ref b)]) (hi : i + 4 ≤ L) (hJ : J X Y) (hI : lI tc adX adM D s X Y H locs) (hN : ∀ (X Y : List va_E) (H : Heap) (locs : List Loc), J X Y → lI tc adX adM D s X Y H locs → lW p l e s m args below meth c H locs Q 490 la []) : lW p l e s m args below meth c H locs Q 464 la [] := by
  obtain ⟨hP, hD, hS⟩ := hI
  have hx := C0.1
  have hb := C0.2.1
  have hl0 := lv_at hl 3 rfl
  obtain ⟨fx, hfx⟩ := O.1 X Y hJ
  obtain ⟨fy, hfy⟩ := O.2.1 X Y hJ
  obtain ⟨dx, dm, r, X1, Y1, ⟨hdx, hdm⟩, hMx, hMm, hJ1, hr⟩ := O.2.2.2.2.2.2.2.2.2.2.2.2.2.2.1  X Y hJ
  obtain ⟨k, rfl⟩ := hr
  refine lv_aload_n (k := 1) hx hb (show decode code 464 = .ok (.aload_n 1, 1) by decide +kernel) rfl (lv_at hl 2 rfl) ?_
  refine lop (ad := adX) (n := 0) (idx := 70) (k := 20) (rest := []) C0 hl hS hP hD hMx hdx hfx (⟨tb2 (i := 189) rfl rfl, tb1 (i := 1) rfl rfl, ⟨by decide, by decide, by decide +kernel⟩, by decide, tb2 (i := 186) rfl rfl, tb2 (i := 187) rfl rfl, tb2 (i := 188) rfl rfl, F_N, 5, rfl⟩) rfl rfl (Nat.le_of_ble_eq_true rfl) (show decode code 465 = .ok (.invokevirtual 70, 3) by decide +kernel) (fun H1 locs1 hP1 hD1 hS1 => ?_)
  refine lv_aload_n (k := 2) hx hb (show decode code 468 = .ok (.aload_n 2, 1) by decide +kernel) rfl (lv_at hl 1 rfl) ?_
  refine lop (ad := adM) (n := 0) (idx := 73) (k := 0) (rest := [.int k]) C0 hl hS1 hP1 hD1 hMm hdm hfy (⟨tb3 (i := 208) rfl rfl, tb1 (i := 6) rfl rfl, ⟨by decide, by decide, by decide +kernel⟩, by decide, tb3 (i := 205) rfl rfl, tb3 (i := 206) rfl rfl, tb3 (i := 207) rfl rfl, F_M, 27, rfl⟩) rfl rfl (Nat.le_of_ble_eq_true rfl) (show decode code 469 = .ok (.invokevirtual 73, 3) by decide +kernel) (fun H2 locs2 hP2 hD2 hS2 => ?_)
  exact lv_icmp_eq (tgt := 490) hx hb (show decode code 472 = .ok (.if_icmp .eq 18, 3) by decide +kernel) rfl (fun _ => hN _ _ _ _ hJ1 ⟨hP2, hD2, hS2⟩) (fun h => absurd rfl h)
set_option maxHeartbeats 1000000 in
theorem lc_steps {X Y : List va_E} {H : Heap} {locs : List Loc} {la : Array Slot} {i : Nat} (C0 : LC p s m args meth c b L xs D tc) (O : LawOps l J) (hl : lv_has la 4 [(3, .int (nI i)), (2, .ref (adM 0)), (1, .ref (adX 20)), (0, .ref b)]) (hi : i + 4 ≤ L) (hJ : J X Y) (hI : lI tc adX adM D s X Y H locs) (hN : ∀ (X Y : List va_E) (H : Heap) (locs : List Loc), J X Y → lI tc adX adM D s X Y H locs → lW p l e s m args below meth c H locs Q 490 la []) : lW p l e s m args below meth c H locs Q 477 la [] := by
  obtain ⟨hP, hD, hS⟩ := hI
  have hx := C0.1
  have hb := C0.2.1
  have hl0 := lv_at hl 3 rfl
  obtain ⟨fx, hfx⟩ := O.1 X Y hJ
  obtain ⟨fy, hfy⟩ := O.2.1 X Y hJ
  obtain ⟨dx, dm, r, X1, Y1, ⟨hdx, hdm⟩, hMx, hMm, hJ1, hr⟩ := O.2.2.2.2.2.2.2.2.2.2.2.2.2.2.2  X Y hJ
  obtain ⟨k, rfl⟩ := hr
  refine lv_aload_n (k := 1) hx hb (show decode code 477 = .ok (.aload_n 1, 1) by decide +kernel) rfl (lv_at hl 2 rfl) ?_
  refine lop (ad := adX) (n := 0) (idx := 74) (k := 20) (rest := []) C0 hl hS hP hD hMx hdx hfx (⟨tb2 (i := 193) rfl rfl, tb1 (i := 1) rfl rfl, ⟨by decide, by decide, by decide +kernel⟩, by decide, tb2 (i := 190) rfl rfl, tb2 (i := 191) rfl rfl, tb2 (i := 192) rfl rfl, F_N, 5, rfl⟩) rfl rfl (Nat.le_of_ble_eq_true rfl) (show decode code 478 = .ok (.invokevirtual 74, 3) by decide +kernel) (fun H1 locs1 hP1 hD1 hS1 => ?_)
  refine lv_aload_n (k := 2) hx hb (show decode code 481 = .ok (.aload_n 2, 1) by decide +kernel) rfl (lv_at hl 1 rfl) ?_
  refine lop (ad := adM) (n := 0) (idx := 77) (k := 0) (rest := [.int k]) C0 hl hS1 hP1 hD1 hMm hdm hfy (⟨tb3 (i := 212) rfl rfl, tb1 (i := 6) rfl rfl, ⟨by decide, by decide, by decide +kernel⟩, by decide, tb3 (i := 209) rfl rfl, tb3 (i := 210) rfl rfl, tb3 (i := 211) rfl rfl, F_M, 27, rfl⟩) rfl rfl (Nat.le_of_ble_eq_true rfl) (show decode code 482 = .ok (.invokevirtual 77, 3) by decide +kernel) (fun H2 locs2 hP2 hD2 hS2 => ?_)
  exact lv_icmp_eq (tgt := 490) hx hb (show decode code 485 = .ok (.if_icmp .eq 5, 3) by decide +kernel) rfl (fun _ => hN _ _ _ _ hJ1 ⟨hP2, hD2, hS2⟩) (fun h => absurd rfl h)
theorem lcmp {L i : Nat} (hL : L ≤ 2048) (hi : i ≤ 2052) : (Int32.ofNat L - 4 < nI i) ↔ L < i + 4 := by
  have h1 : (Int32.ofNat L - 4).toInt = (L : Int) - 4 := by
    rw [Int32.toInt_sub, show (Int32.ofNat L).toInt = (L : Int) from nI_toInt (by omega), show (4 : Int32).toInt = 4 from by decide]
    exact Int.bmod_eq_of_le (by omega) (by omega)
  rw [Int32.lt_iff_toInt_lt, h1, nI_toInt (by omega)]
  omega
theorem lsw : decode code 32 = .ok (.tableswitch 458 0 13 #[72, 125, 136, 149, 198, 211, 224, 247, 280, 313, 376, 399, 432, 445], 72) := by decide +kernel
set_option maxRecDepth 100000 in
set_option maxHeartbeats 2000000 in
theorem lloop (C0 : LC p s m #[Value.ref b] meth c b L xs D tc) (O : LawOps l J) : ∀ (n i : Nat), L ≤ i + n → i ≤ 2052 → ∀ (X Y : List va_E) (H : Heap) (locs : List Loc) (la : Array Slot), J X Y → lv_has la 4 [(3, .int (nI i)), (2, .ref (adM 0)), (1, .ref (adX 20)), (0, .ref b)] → lI tc adX adM D s X Y H locs → lW p l e s m #[Value.ref b] below meth c H locs (lw_Z below #[Value.ref b] s) 18 la [] := by
  intro n
  have hx := C0.1
  have hb := C0.2.1
  have hL := C0.2.2.2.2.2.2.2.2.2.2
  induction n with
  | zero => 
    intro i hn hi X Y H locs la hJ hl hI
    refine lv_iload_n (k := 3) hx hb (show decode code 18 = .ok (.iload_n 3, 1) by decide +kernel) rfl (lv_at hl 0 rfl) ?_
    refine lv_aload_n (k := 0) hx hb (show decode code 19 = .ok (.aload_n 0, 1) by decide +kernel) rfl (lv_at hl 3 rfl) ?_
    refine va_slen hx hb C0.2.2.2.2.2.2.1 C0.2.2.2.2.2.2.2.1 (fun h => absurd C0.2.2.2.2.2.2.2.1 (Nat.not_lt.mpr h)) hI.2.2 (show decode code 20 = .ok (.arraylength, 1) by decide +kernel) ?_
    refine lv_iconst (v := 4) hx hb (show decode code 21 = .ok (.iconst 4, 1) by decide +kernel) rfl ?_
    refine lv_isub hx hb (show decode code 22 = .ok (.isub, 1) by decide +kernel) ?_
    refine lv_icmp_gt (tgt := 496) hx hb (show decode code 23 = .ok (.if_icmp .gt 473, 3) by decide +kernel) rfl (fun h => ?_) (fun h => ?_)
    · refine va_forget (fun q hq => hI.2.2.2.2 q hq) ?_
      refine lv_iconst (v := 1) hx hb (show decode code 496 = .ok (.iconst 1, 1) by decide +kernel) rfl ?_
      exact lw_ret hx hb C0.2.2.1 C0.2.2.2.2.2.2.2.2.1 (show decode code 497 = .ok (.ireturn, 1) by decide +kernel)
    · rw [lcmp hL hi] at h
      omega
  | succ n ih => 
    intro i hn hi X Y H locs la hJ hl hI
    refine lv_iload_n (k := 3) hx hb (show decode code 18 = .ok (.iload_n 3, 1) by decide +kernel) rfl (lv_at hl 0 rfl) ?_
    refine lv_aload_n (k := 0) hx hb (show decode code 19 = .ok (.aload_n 0, 1) by decide +kernel) rfl (lv_at hl 3 rfl) ?_
    refine va_slen hx hb C0.2.2.2.2.2.2.1 C0.2.2.2.2.2.2.2.1 (fun h => absurd C0.2.2.2.2.2.2.2.1 (Nat.not_lt.mpr h)) hI.2.2 (show decode code 20 = .ok (.arraylength, 1) by decide +kernel) ?_
    refine lv_iconst (v := 4) hx hb (show decode code 21 = .ok (.iconst 4, 1) by decide +kernel) rfl ?_
    refine lv_isub hx hb (show decode code 22 = .ok (.isub, 1) by decide +kernel) ?_
    refine lv_icmp_gt (tgt := 496) hx hb (show decode code 23 = .ok (.if_icmp .gt 473, 3) by decide +kernel) rfl (fun h => ?_) (fun h => ?_)
    · refine va_forget (fun q hq => hI.2.2.2.2 q hq) ?_
      refine lv_iconst (v := 1) hx hb (show decode code 496 = .ok (.iconst 1, 1) by decide +kernel) rfl ?_
      exact lw_ret hx hb C0.2.2.1 C0.2.2.2.2.2.2.2.2.1 (show decode code 497 = .ok (.ireturn, 1) by decide +kernel)
    · rw [lcmp hL hi] at h
      have h4 : i + 4 ≤ L := by omega
      have hN : ∀ (X Y : List va_E) (H : Heap) (locs : List Loc), J X Y → lI tc adX adM D s X Y H locs → lW p l e s m #[Value.ref b] below meth c H locs (lw_Z below #[Value.ref b] s) 490 la [] := by
        intro X Y H locs hJ hI
        refine lv_iinc (k := 0) (v := nI (i + 4)) (lv' := [(3, .int (nI (i + 4))), (2, .ref (adM 0)), (1, .ref (adX 20)), (0, .ref b)]) hx hb (show decode code 490 = .ok (.iinc 3 4, 3) by decide +kernel) hl rfl (nI_add i 4) (by decide) rfl (fun la' hl' => ?_)
        exact lv_goto (tgt := 18) hx hb (show decode code 493 = .ok (.goto (-475), 3) by decide +kernel) rfl (ih (i + 4) (by omega) (by omega) X Y H locs la' hJ hl' hI)
      refine larg0 C0 hI.2.2 hl (lv_at hl 3 rfl) (by omega) (show decode code 26 = .ok (.aload_n 0, 1) by decide +kernel) (show decode code 27 = .ok (.iload_n 3, 1) by decide +kernel) (show decode code 28 = .ok (.iaload, 1) by decide +kernel) ?_
      refine lv_bipush (v := 15) hx hb (show decode code 29 = .ok (.bipush 15, 2) by decide +kernel) (by decide) ?_
      refine lv_iand hx hb (show decode code 31 = .ok (.iand, 1) by decide +kernel) ?_
      generalize xs i &&& 15 = x
      by_cases c0 : x.toInt = 0
      · exact lv_tableIn (tgt := 104) (off := 72) hx hb lsw (by omega) (by omega) (by rw [c0]; rfl) rfl (lc_type C0 O hl h4 hJ hI hN)
      by_cases c1 : x.toInt = 1
      · exact lv_tableIn (tgt := 157) (off := 125) hx hb lsw (by omega) (by omega) (by rw [c1]; rfl) rfl (lc_wipe C0 O hl h4 hJ hI hN)
      by_cases c2 : x.toInt = 2
      · exact lv_tableIn (tgt := 168) (off := 136) hx hb lsw (by omega) (by omega) (by rw [c2]; rfl) rfl (lc_length C0 O hl h4 hJ hI hN)
      by_cases c3 : x.toInt = 3
      · exact lv_tableIn (tgt := 181) (off := 149) hx hb lsw (by omega) (by omega) (by rw [c3]; rfl) rfl (lc_declare C0 O hl h4 hJ hI hN)
      by_cases c4 : x.toInt = 4
      · exact lv_tableIn (tgt := 230) (off := 198) hx hb lsw (by omega) (by omega) (by rw [c4]; rfl) rfl (lc_statements C0 O hl h4 hJ hI hN)
      by_cases c5 : x.toInt = 5
      · exact lv_tableIn (tgt := 243) (off := 211) hx hb lsw (by omega) (by omega) (by rw [c5]; rfl) rfl (lc_alarms C0 O hl h4 hJ hI hN)
      by_cases c6 : x.toInt = 6
      · exact lv_tableIn (tgt := 256) (off := 224) hx hb lsw (by omega) (by omega) (by rw [c6]; rfl) rfl (lc_alarm C0 O hl h4 hJ hI hN)
      by_cases c7 : x.toInt = 7
      · exact lv_tableIn (tgt := 279) (off := 247) hx hb lsw (by omega) (by omega) (by rw [c7]; rfl) rfl (lc_sure C0 O hl h4 hJ hI hN)
      by_cases c8 : x.toInt = 8
      · exact lv_tableIn (tgt := 312) (off := 280) hx hb lsw (by omega) (by omega) (by rw [c8]; rfl) rfl (lc_linked C0 O hl h4 hJ hI hN)
      by_cases c9 : x.toInt = 9
      · exact lv_tableIn (tgt := 345) (off := 313) hx hb lsw (by omega) (by omega) (by rw [c9]; rfl) rfl (lc_run C0 O hl h4 hJ hI hN)
      by_cases c10 : x.toInt = 10
      · exact lv_tableIn (tgt := 408) (off := 376) hx hb lsw (by omega) (by omega) (by rw [c10]; rfl) rfl (lc_held C0 O hl h4 hJ hI hN)
      by_cases c11 : x.toInt = 11
      · exact lv_tableIn (tgt := 431) (off := 399) hx hb lsw (by omega) (by omega) (by rw [c11]; rfl) rfl (lc_field C0 O hl h4 hJ hI hN)
      by_cases c12 : x.toInt = 12
      · exact lv_tableIn (tgt := 464) (off := 432) hx hb lsw (by omega) (by omega) (by rw [c12]; rfl) rfl (lc_objects C0 O hl h4 hJ hI hN)
      by_cases c13 : x.toInt = 13
      · exact lv_tableIn (tgt := 477) (off := 445) hx hb lsw (by omega) (by omega) (by rw [c13]; rfl) rfl (lc_steps C0 O hl h4 hJ hI hN)
      exact lv_tableOut (tgt := 490) hx hb lsw (by omega) rfl (hN X Y H locs hJ hI)
end Law2
