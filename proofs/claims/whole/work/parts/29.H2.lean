/-! Machine: values, writes, atoms -/
def mRead (prt : Int32) (v : Nat) (m : MSt) (e : Int32) : Option Nat × Int32 := if prt = 0 then (m.1 v, e) else match m.1 v with
  | none => (none, 1)
  | some o => (if prt = 1 then some (m.2.1 o) else m.2.2.1 o, e)
section
variable (l : Launch) (z : Sg) (r : List va_E) (sc : Int32)
set_option maxRecDepth 100000 in
set_option maxHeartbeats 1000000 in
theorem c_H_read (m : MSt) (hm : MInv m) (e : Int32) (prt : Int32) (v : Nat) (hv : v < 5) {x : Int32} (hx : x = nI v := by rfl) : XMet l 0 q_H_read [.ref 16, .int prt, .int x] (wM z m sc e r) (some (.int (oI (mRead prt v m e).1))) (wM z m sc (mRead prt v m e).2 r) := by
  subst hx
  obtain ⟨i1, i2, i3, i4, i5⟩ := hm
  refine xm_intro (by decide +kernel) (Nat.le_of_ble_eq_true rfl) ?_
  refine xw_go xcls ok_H_read 40 [] ?_
  refine And.intro (in_nI (by omega) (by omega)) ?_
  rw [cl_nI (by omega)]
  have e17 : sM z m sc e 17 v = oI (m.1 v) := rfl
  refine And.intro (fun h => ?_) (fun h => ?_)
  · cases ho : m.1 v with
    | none =>
      have e0 : mRead prt v m e = (none, 1) := by simp [mRead, h, ho]
      rw [e0]
      refine And.intro (fun h2 => absurd (show sM z m sc e 17 v = -1 by rw [e17, ho]; rfl) h2) (fun h2 => ?_)
      exact And.intro trivial (And.intro trivial ⟨rfl, rfl⟩)
    | some o =>
      have e18 : sM z m sc e 17 v = nI o := by rw [e17, ho]; rfl
      have ho8 := i1 v o ho
      have e0 : mRead prt v m e = (if prt = 1 then some (m.2.1 o) else m.2.2.1 o, e) := by simp [mRead, h, ho]
      rw [e0]
      refine And.intro (fun h2 => ?_) (fun h2 => absurd (e18.symm.trans h2) (nI_nm1 (by omega)))
      refine And.intro (fun h3 => ?_) (fun h3 => ?_)
      · refine And.intro (by show vp_in (sM z m sc e 17 v) 8; rw [e18]; exact in_nI (by omega) (by omega)) ?_
        rw [e18, cl_nI (by omega)]
        exact And.intro trivial ⟨by rw [if_neg h3]; rfl, rfl⟩
      · refine And.intro (by show vp_in (sM z m sc e 17 v) 8; rw [e18]; exact in_nI (by omega) (by omega)) ?_
        rw [e18, cl_nI (by omega)]
        exact And.intro trivial ⟨by rw [if_pos h3]; rfl, rfl⟩
  · have e0 : mRead prt v m e = (m.1 v, e) := by simp [mRead, h]
    rw [e0]
    exact And.intro trivial ⟨rfl, rfl⟩
/-- a value: the object, what it leaves, how the run stands -/
def mFind (val : Int32) (s : Nat) (m : MSt) (e : Int32) : Option Nat × MSt × Int32 := if val = 3 then (none, m, e) else if val = 4 then (some (mMk m).1, (mMk m).2, e) else if val = 5 then (mAsk m, mTk 2 m, e) else ((mRead val s m e).1, m, (mRead val s m e).2)
set_option maxRecDepth 100000 in
set_option maxHeartbeats 1000000 in
theorem c_H_findValue (m : MSt) (hm : MInv m) (e : Int32) (val src : Int32) (s : Nat) (hs : ¬ val = 3 → ¬ val = 4 → ¬ val = 5 → src = nI s ∧ s < 5) : XMet l 3 q_H_findValue [.ref 16, .int val, .int src] (wM z m sc e r) (some (.int (oI (mFind val s m e).1))) (wM z (mFind val s m e).2.1 sc (mFind val s m e).2.2 r) := by
  refine xm_intro (by decide +kernel) (Nat.le_of_ble_eq_true rfl) ?_
  refine xw_go xcls ok_H_findValue 40 [] ?_
  refine And.intro (fun h => ?_) (fun h3 => ?_)
  · have e0 : mFind val s m e = (none, m, e) := by simp [mFind, h]
    rw [e0]
    exact And.intro trivial ⟨rfl, rfl⟩
  · refine And.intro (fun h => ?_) (fun h4 => ?_)
    · have e0 : mFind val s m e = (some (mMk m).1, (mMk m).2, e) := by simp [mFind, h]
      rw [e0]
      refine ⟨0, _, _, by decide, c_H_makeObject l z r sc e m hm.2.2.2.2, ?_⟩
      exact And.intro trivial ⟨rfl, rfl⟩
    · refine And.intro (fun h => ?_) (fun h5 => ?_)
      · have e0 : mFind val s m e = (mAsk m, mTk 2 m, e) := by simp [mFind, h]
        rw [e0]
        refine ⟨2, _, _, by decide, c_H_askOracle l z r sc e m hm, ?_⟩
        exact And.intro trivial ⟨rfl, rfl⟩
      · have e0 : mFind val s m e = ((mRead val s m e).1, m, (mRead val s m e).2) := by simp [mFind, h3, h4, h5]
        rw [e0]
        obtain ⟨q1, q2⟩ := hs h3 h4 h5
        refine ⟨0, _, _, by decide, c_H_read l z r sc m hm e val s q2 q1, ?_⟩
        exact And.intro trivial ⟨rfl, rfl⟩
def mLoc (v : Nat) (x : Option Nat) (m : MSt) : MSt := (fu m.1 v x, m.2)
def mG (o x : Nat) (m : MSt) : MSt := (m.1, fu m.2.1 o x, m.2.2)
def mH (o : Nat) (x : Option Nat) (m : MSt) : MSt := (m.1, m.2.1, fu m.2.2.1 o x, m.2.2.2)
theorem w_mLoc {m : MSt} {e : Int32} {v : Nat} {x : Option Nat} : wP z (wC z (wH (us (sM z m sc e) 17 v (oI x)) m.2.2.2.2 r)) = wM z (mLoc v x m) sc e r := wM_i (m := mLoc v x m) rfl rfl rfl (fu_oI _ _ _) rfl rfl
theorem w_mG {m : MSt} {e : Int32} {o x : Nat} : wP z (wC z (wH (us (sM z m sc e) 18 o (nI x)) m.2.2.2.2 r)) = wM z (mG o x m) sc e r := wM_i (m := mG o x m) rfl rfl rfl rfl (fu_nI _ _ _) rfl
theorem w_mH {m : MSt} {e : Int32} {o : Nat} {x : Option Nat} : wP z (wC z (wH (us (sM z m sc e) 19 o (oI x)) m.2.2.2.2 r)) = wM z (mH o x m) sc e r := wM_i (m := mH o x m) rfl rfl rfl rfl rfl (fu_oI _ _ _)
/-- a name gets a value -/
def mWL (v : Nat) (x : Option Nat) (so : Int32) (m : MSt) (e : Int32) : MSt × Int32 := if ¬ so = 0 ∧ x = none then (m, 2) else (mLoc v x m, e)
theorem oI_n {x : Option Nat} (h : ∀ o, x = some o → o < 8) : oI x = -1 ↔ x = none := oI_m1 (fun y hy => by have := h y hy; omega)
set_option maxRecDepth 100000 in
set_option maxHeartbeats 1000000 in
theorem c_H_writeLocal (m : MSt) (e : Int32) (v : Nat) (hv : v < 5) (x : Option Nat) (hx : ∀ o, x = some o → o < 8) (so : Int32) : XMet l 0 q_H_writeLocal [.ref 16, .int (nI v), .int (oI x), .int so] (wM z m sc e r) none (wM z (mWL v x so m e).1 sc (mWL v x so m e).2 r) := by
  refine xm_intro (by decide +kernel) (Nat.le_of_ble_eq_true rfl) ?_
  have j : ¬ (¬ so = 0 ∧ x = none) → XW l 0 q_H_writeLocal (fun a b => a = none ∧ b = wM z (mWL v x so m e).1 sc (mWL v x so m e).2 r) 17 [(0, .ref 16), (1, .int (nI v)), (2, .int (oI x))] [] (wM z m sc e r) := by
    intro hc
    rw [show mWL v x so m e = (mLoc v x m, e) by rw [mWL, if_neg hc]]
    refine xw_go xcls ok_H_writeLocal 40 [] ?_
    refine And.intro (in_nI (by omega) (by omega)) ?_
    rw [cl_nI (by omega)]
    exact And.intro rfl ⟨rfl, w_mLoc z r sc⟩
  refine xw_go xcls ok_H_writeLocal 40 [(17, [0, 1, 2])] ?_
  refine And.intro (fun h => j (fun c => c.1 h)) (fun h => ?_)
  refine And.intro (fun h2 => j (fun c => h2 (by rw [c.2]; rfl))) (fun h2 => ?_)
  rw [show mWL v x so m e = (m, 2) by rw [mWL, if_pos ⟨h, (oI_n hx).mp h2⟩]]
  exact And.intro trivial (And.intro rfl ⟨rfl, rfl⟩)
theorem MInv_mk {m : MSt} (h : MInv m) : MInv (mMk m).2 ∧ (mMk m).1 < 8 := by
  obtain ⟨i1, i2, i3, i4, i5⟩ := h
  unfold mMk; split
  · rename_i hk
    refine ⟨⟨i1, fun o => ?_, fun o q hq => ?_, by show 1 ≤ m.2.2.2.1 + 1; omega, by show m.2.2.2.1 + 1 ≤ 8; omega⟩, hk⟩
    · show fu m.2.1 m.2.2.2.1 m.2.2.2.1 o < 8
      unfold fu; split
      · omega
      · exact i2 o
    · have hq : fu m.2.2.1 m.2.2.2.1 none o = some q := hq
      unfold fu at hq; split at hq
      · cases hq
      · exact i3 o q hq
  · exact ⟨⟨i1, i2, i3, i4, i5⟩, by omega⟩
theorem mFind_inv {m : MSt} {e val : Int32} {s : Nat} (h : MInv m) : MInv (mFind val s m e).2.1 ∧ ∀ o, (mFind val s m e).1 = some o → o < 8 := by
  obtain ⟨i1, i2, i3, i4, i5⟩ := id h
  unfold mFind; split
  · exact ⟨h, fun o ho => by cases ho⟩
  · split
    · have := MInv_mk h
      exact ⟨this.1, fun o ho => by have ho := Option.some.inj ho; omega⟩
    · split
      · refine ⟨h, fun o ho => ?_⟩
        have ho : mAsk m = some o := ho
        unfold mAsk at ho; split at ho
        · cases ho
        · have ho := Option.some.inj ho
          have := Nat.min_le_right (tkN 2 m.2.2.2.2 - 1) (m.2.2.2.1 - 1)
          omega
      · refine ⟨h, fun o ho => ?_⟩
        have ho : (mRead val s m e).1 = some o := ho
        unfold mRead at ho; split at ho
        · exact i1 s o ho
        · split at ho
          · cases ho
          · rename_i q _
            have ho : (if val = 1 then some (m.2.1 q) else m.2.2.1 q) = some o := ho
            split at ho
            · have ho := Option.some.inj ho
              have := i2 q; omega
            · exact i3 q o ho
/-- a write done -/
def mWr (prt val solid : Int32) (v s : Nat) (m : MSt) : MSt × Int32 :=
  if ¬ (mFind val s m (-1)).2.2 = -1 then (mFind val s m (-1)).2
  else if prt = 0 then mWL v (mFind val s m (-1)).1 (bI (¬ (solid >>> (nI v &&& 31)) &&& 1 = 0)) (mFind val s m (-1)).2.1 (-1)
  else match (mFind val s m (-1)).2.1.1 v with
    | none => ((mFind val s m (-1)).2.1, 1)
    | some o => if prt = 2 then (mH o (mFind val s m (-1)).1 (mFind val s m (-1)).2.1, -1) else match (mFind val s m (-1)).1 with
      | none => ((mFind val s m (-1)).2.1, 2)
      | some x => (mG o x (mFind val s m (-1)).2.1, -1)
set_option maxRecDepth 100000 in
set_option maxHeartbeats 2000000 in
theorem c_H_write (m : MSt) (hm : MInv m) (p : Nat) (hp : p < 65) (solid : Int32) (v s : Nat) (hv : z 3 p = nI v) (hv5 : v < 5) (hs : ¬ z 5 p = 3 → ¬ z 5 p = 4 → ¬ z 5 p = 5 → z 6 p = nI s ∧ s < 5) : XMet l 4 q_H_write [.ref 16, .ref 0, .int (nI p), .int solid] (wM z m sc (-1) r) none (wM z (mWr (z 4 p) (z 5 p) solid v s m).1 sc (mWr (z 4 p) (z 5 p) solid v s m).2 r) := by
  refine xm_intro (by decide +kernel) (Nat.le_of_ble_eq_true rfl) ?_
  generalize hres : mWr (z 4 p) (z 5 p) solid v s m = res
  obtain ⟨hf1, hf2⟩ := mFind_inv (e := -1) (val := z 5 p) (s := s) hm
  generalize hf : mFind (z 5 p) s m (-1) = f at hf1 hf2
  obtain ⟨x, m1, e1⟩ := f
  have hf1 : MInv m1 := hf1
  have hf2 : ∀ o, x = some o → o < 8 := hf2
  have lst : ∀ b : Int32, e1 = -1 → z 4 p = 0 → b = bI (¬ (solid >>> (nI v &&& 31)) &&& 1 = 0) → XW l 4 q_H_write (fun a b => a = none ∧ b = wM z res.1 sc res.2 r) 63 [] [.int b, .int (oI x), .int (nI v), .ref 16] (wM z m1 sc (-1) r) := by
    intro b h1 h2 hb
    refine xw_go xcls ok_H_write 40 [] ?_
    refine ⟨0, _, _, by decide, c_H_writeLocal l z r sc m1 (-1) v hv5 x hf2 b, ?_⟩
    refine And.intro rfl ⟨rfl, ?_⟩
    rw [← hres, mWr, hf]
    simp only [h1, h2, hb]
    simp
  refine xw_go xcls ok_H_write 60 [(63, [])] ?_
  refine And.intro (in_nI (by omega) (by omega)) ?_
  rw [cl_nI (by omega)]
  refine And.intro (in_nI (by omega) (by omega)) ?_
  rw [cl_nI (by omega)]
  refine And.intro (in_nI (by omega) (by omega)) ?_
  rw [cl_nI (by omega)]
  refine ⟨3, _, _, by decide, c_H_findValue l z r sc m hm (-1) (z 5 p) (z 6 p) s hs, ?_⟩
  rw [hf]
  rw [show z 3 p = nI v from hv]
  refine And.intro (fun h => ?_) (fun h => ?_)
  · have h : e1 = -1 := h
    subst h
    refine And.intro (in_nI (by omega) (by omega)) ?_
    rw [cl_nI (by omega)]
    refine And.intro (fun h4 => ?_) (fun h4 => ?_)
    · have h4 : ¬ z 4 p = 0 := h4
      refine And.intro (in_nI (by omega) (by omega)) ?_
      rw [cl_nI (by omega)]
      have e17 : sM z m1 sc (-1) 17 v = oI (m1.1 v) := rfl
      cases ho : m1.1 v with
      | none =>
        refine And.intro (fun h5 => absurd (show sM z m1 sc (-1) 17 v = -1 by rw [e17, ho]; rfl) h5) (fun h5 => ?_)
        refine And.intro trivial (And.intro rfl ⟨rfl, ?_⟩)
        have e0 : mWr (z 4 p) (z 5 p) solid v s m = (m1, 1) := by simp [mWr, hf, h4, ho]
        rw [← hres, e0]
        rfl
      | some o =>
        have e18 : sM z m1 sc (-1) 17 v = nI o := by rw [e17, ho]; rfl
        have ho8 := hf1.1 v o ho
        refine And.intro (fun h5 => ?_) (fun h5 => absurd (e18.symm.trans h5) (nI_nm1 (by omega)))
        refine And.intro (in_nI (by omega) (by omega)) ?_
        rw [cl_nI (by omega)]
        refine And.intro (fun h6 => ?_) (fun h6 => ?_)
        · have h6 : ¬ z 4 p = 2 := h6
          refine And.intro (fun h7 => ?_) (fun h7 => ?_)
          · cases x with
            | none => exact absurd rfl h7
            | some q =>
              refine And.intro (in_nI (by omega) (by omega)) ?_
              rw [cl_nI (by omega)]
              refine And.intro (by show vp_in (sM z m1 sc (-1) 17 v) 8; rw [e18]; exact in_nI (by omega) (by omega)) ?_
              rw [e18, cl_nI (by omega)]
              refine And.intro rfl ⟨rfl, ?_⟩
              have e0 : mWr (z 4 p) (z 5 p) solid v s m = (mG o q m1, -1) := by simp [mWr, hf, h4, ho, h6]
              rw [← hres, e0]
              exact w_mG z r sc
          · have hx : x = none := (oI_n hf2).mp h7
            have e0 : mWr (z 4 p) (z 5 p) solid v s m = (m1, 2) := by simp [mWr, hf, h4, ho, h6, hx]
            refine And.intro trivial (And.intro rfl ⟨rfl, ?_⟩)
            rw [← hres, e0]
            rfl
        · have h6 : z 4 p = 2 := h6
          refine And.intro (in_nI (by omega) (by omega)) ?_
          rw [cl_nI (by omega)]
          refine And.intro (by show vp_in (sM z m1 sc (-1) 17 v) 8; rw [e18]; exact in_nI (by omega) (by omega)) ?_
          rw [e18, cl_nI (by omega)]
          refine And.intro rfl ⟨rfl, ?_⟩
          have e0 : mWr (z 4 p) (z 5 p) solid v s m = (mH o x m1, -1) := by simp [mWr, hf, ho, h6]
          rw [← hres, e0]
          exact w_mH z r sc
    · have h4 : z 4 p = 0 := h4
      refine And.intro (fun h5 => ?_) (fun h5 => ?_)
      · exact lst 0 rfl h4 (by simp [bI, h5])
      · exact lst 1 rfl h4 (by simp [bI, h5])
  · have h : ¬ e1 = -1 := h
    refine And.intro rfl ⟨rfl, ?_⟩
    have e0 : mWr (z 4 p) (z 5 p) solid v s m = (m1, e1) := by simp [mWr, hf, h]
    rw [← hres, e0]
theorem mWr_inv {m : MSt} {prt val solid : Int32} {v s : Nat} (h : MInv m) : MInv (mWr prt val solid v s m).1 := by
  obtain ⟨hf1, hf2⟩ := mFind_inv (e := -1) (val := val) (s := s) h
  unfold mWr
  generalize mFind val s m (-1) = f at hf1 hf2 ⊢
  obtain ⟨x, m1, e1⟩ := f
  obtain ⟨i1, i2, i3, i4, i5⟩ := id hf1
  have hf2 : ∀ o, x = some o → o < 8 := hf2
  split
  · exact hf1
  · split
    · unfold mWL; split
      · exact hf1
      · refine ⟨fun w o ho => ?_, i2, i3, i4, i5⟩
        have ho : fu m1.1 v x w = some o := ho
        unfold fu at ho; split at ho
        · exact hf2 o ho
        · exact i1 w o ho
    · split
      · exact hf1
      · rename_i o _
        split
        · refine ⟨i1, i2, fun w q hq => ?_, i4, i5⟩
          have hq : fu m1.2.2.1 o x w = some q := hq
          unfold fu at hq; split at hq
          · exact hf2 q hq
          · exact i3 w q hq
        · split
          · exact hf1
          · rename_i y hy
            have hy : x = some y := hy
            refine ⟨i1, fun w => ?_, i3, i4, i5⟩
            show fu m1.2.1 o y w < 8
            unfold fu; split
            · exact hf2 y hy
            · exact i2 w
/-- is the atom true; what it leaves -/
def mTrue (prt : Int32) (v : Nat) (m : MSt) : Bool × MSt × Int32 := if prt = 6 then (decide (tkN 1 m.2.2.2.2 = 1), mTk 1 m, -1) else ((mRead prt v m (-1)).1.isSome, m, (mRead prt v m (-1)).2)
def b01 (b : Bool) : Int32 := if b then 1 else 0
set_option maxRecDepth 100000 in
set_option maxHeartbeats 1000000 in
theorem c_H_isTrue (m : MSt) (hm : MInv m) (prt loc : Int32) (v : Nat) (hv : ¬ prt = 6 → loc = nI v ∧ v < 5) : XMet l 1 q_H_isTrue [.ref 16, .int prt, .int loc] (wM z m sc (-1) r) (some (.int (b01 (mTrue prt v m).1))) (wM z (mTrue prt v m).2.1 sc (mTrue prt v m).2.2 r) := by
  refine xm_intro (by decide +kernel) (Nat.le_of_ble_eq_true rfl) ?_
  refine xw_go xcls ok_H_isTrue 40 [] ?_
  refine And.intro (fun h => ?_) (fun h => ?_)
  · obtain ⟨q1, q2⟩ := hv h
    have e0 : mTrue prt v m = ((mRead prt v m (-1)).1.isSome, m, (mRead prt v m (-1)).2) := by simp [mTrue, h]
    rw [e0]
    refine ⟨0, _, _, by decide, c_H_read l z r sc m hm (-1) prt v q2 q1, ?_⟩
    have hb : ∀ o, (mRead prt v m (-1)).1 = some o → o < 8 := fun o ho => by
      have := (mFind_inv (e := -1) (val := prt) (s := v) hm).2
      unfold mRead at ho; split at ho
      · exact hm.1 v o ho
      · split at ho
        · cases ho
        · rename_i q _
          have ho : (if prt = 1 then some (m.2.1 q) else m.2.2.1 q) = some o := ho
          split at ho
          · have ho := Option.some.inj ho
            have := hm.2.1 q; omega
          · exact hm.2.2.1 q o ho
    refine And.intro (fun h2 => ?_) (fun h2 => ?_)
    · have h2 := (oI_n hb).mp h2
      exact And.intro (Or.inl rfl) ⟨by simp [h2, b01], rfl⟩
    · have h2 : ¬ (mRead prt v m (-1)).1 = none := fun c => h2 ((oI_n hb).mpr c)
      have h3 : (mRead prt v m (-1)).1.isSome = true := Option.isSome_iff_ne_none.mpr h2
      exact And.intro (Or.inr rfl) ⟨by simp [h3, b01], rfl⟩
  · have e0 : mTrue prt v m = (decide (tkN 1 m.2.2.2.2 = 1), mTk 1 m, -1) := by simp [mTrue, h]
    rw [e0]
    have h4 := tkN_1 m.2.2.2.2
    refine ⟨0, _, _, by decide, c_H_takeBits l z r sc (-1) m 1 (Or.inl rfl), ?_⟩
    refine And.intro (fun h2 => ?_) (fun h2 => ?_)
    · rw [show (1 : Int32) = nI 1 from rfl, nI_eq' (by omega) (by omega)] at h2
      exact And.intro (Or.inl rfl) ⟨by simp [h2, b01], rfl⟩
    · rw [show (1 : Int32) = nI 1 from rfl, nI_eq' (by omega) (by omega)] at h2
      exact And.intro (Or.inr rfl) ⟨by simp [h2, b01], rfl⟩
end
