/-! Checker: the work at a place -/
def cWr (loc prt val src solid : Int32) (q : KF) : KF :=
  if prt = 0 then cWL loc (cTake val src q).1 (bI (val = 0 ∧ ¬ (cTake val src q).2.1 &&& lB src = 0)) (bI (¬ solid &&& sB loc = 0)) (cTake val src q).2
  else if prt = 2 then cWF loc (cTake val src q).1 (cUse loc (cTake val src q).2)
  else if (cTake val src q).1 = 0 then ((cUse loc (cTake val src q).2).1, (cUse loc (cTake val src q).2).2 ||| 2)
  else cUse loc (cTake val src q).2
section
variable (l : Launch) (z : Sg) (r : List va_E) (S A : Nat → Int32) (ch : Int32)
set_option maxRecDepth 100000 in
set_option maxHeartbeats 1000000 in
theorem c_K_write (q : KF) (p : Nat) (hp : p < 65) (solid : Int32) : XMet l 3 q_K_write [.ref 13, .ref 0, .int (nI p), .int solid] (wQ (sC z S A ch q.1 q.2) r) none (wQ (sC z S A ch (cWr (z 3 p) (z 4 p) (z 5 p) (z 6 p) solid q).1 (cWr (z 3 p) (z 4 p) (z 5 p) (z 6 p) solid q).2) r) := by
  refine xm_intro (by decide +kernel) (Nat.le_of_ble_eq_true rfl) ?_
  generalize hres : cWr (z 3 p) (z 4 p) (z 5 p) (z 6 p) solid q = res
  have lst : ∀ (vl : Int32) (b : Int32), z 4 p = 0 → vl = bI (z 5 p = 0 ∧ ¬ (cTake (z 5 p) (z 6 p) q).2.1 &&& lB (z 6 p) = 0) → b = bI (¬ solid &&& sB (z 3 p) = 0) → XW l 3 q_K_write (fun a b => a = none ∧ b = wQ (sC z S A ch res.1 res.2) r) 89 [] [.int b, .int vl, .int (cTake (z 5 p) (z 6 p) q).1, .int (z 3 p), .ref 13] (wQ (sC z S A ch (cTake (z 5 p) (z 6 p) q).2.1 (cTake (z 5 p) (z 6 p) q).2.2) r) := by
    intro vl b h4 h1 h2
    refine xw_go xcls ok_K_write 40 [] ?_
    refine ⟨1, _, _, by decide, c_K_writeLocal l z r S A ch (cTake (z 5 p) (z 6 p) q).2 (z 3 p) _ vl b, ?_⟩
    refine And.intro rfl ⟨rfl, ?_⟩
    rw [← hres, cWr, if_pos h4, h1, h2]
  have mid : ∀ (vl : Int32), z 4 p = 0 → vl = bI (z 5 p = 0 ∧ ¬ (cTake (z 5 p) (z 6 p) q).2.1 &&& lB (z 6 p) = 0) → XW l 3 q_K_write (fun a b => a = none ∧ b = wQ (sC z S A ch res.1 res.2) r) 65 [(0, .ref 13), (3, .int solid), (4, .int (z 3 p)), (5, .int (cTake (z 5 p) (z 6 p) q).1)] [.int vl] (wQ (sC z S A ch (cTake (z 5 p) (z 6 p) q).2.1 (cTake (z 5 p) (z 6 p) q).2.2) r) := by
    intro vl h4 h1
    refine xw_go xcls ok_K_write 40 [(89, [])] ?_
    refine ⟨0, _, _, by decide, c_K_sureBit l _ (z 3 p), ?_⟩
    refine And.intro (fun h => ?_) (fun h => ?_)
    · exact lst vl 0 h4 h1 (by simp [bI, h])
    · exact lst vl 1 h4 h1 (by simp [bI, h])
  refine xw_go xcls ok_K_write 60 [(65, [0, 3, 4, 5]), (89, [])] ?_
  refine And.intro (in_nI (by omega) (by omega)) ?_
  rw [cl_nI (by omega)]
  refine And.intro (in_nI (by omega) (by omega)) ?_
  rw [cl_nI (by omega)]
  refine And.intro (in_nI (by omega) (by omega)) ?_
  rw [cl_nI (by omega)]
  refine ⟨2, _, _, by decide, c_K_takeValue l z r S A ch q (z 5 p) (z 6 p), ?_⟩
  refine And.intro (in_nI (by omega) (by omega)) ?_
  rw [cl_nI (by omega)]
  refine And.intro (fun h4 => ?_) (fun h4 => ?_)
  · have h4 : ¬ z 4 p = 0 := h4
    refine ⟨1, _, _, by decide, c_K_use l z r S A ch (cTake (z 5 p) (z 6 p) q).2 (z 3 p), ?_⟩
    refine And.intro (in_nI (by omega) (by omega)) ?_
    rw [cl_nI (by omega)]
    refine And.intro (fun h5 => ?_) (fun h5 => ?_)
    · have h5 : ¬ z 4 p = 2 := h5
      refine And.intro (fun h6 => ?_) (fun h6 => ?_)
      · refine And.intro rfl ⟨rfl, ?_⟩
        rw [← hres, cWr, if_neg h4, if_neg h5, if_neg h6]
      · refine And.intro trivial (And.intro rfl ⟨rfl, ?_⟩)
        rw [← hres, cWr, if_neg h4, if_neg h5, if_pos h6]
        rfl
    · have h5 : z 4 p = 2 := h5
      refine ⟨1, _, _, by decide, c_K_writeFieldH l z r S A ch (cUse (z 3 p) (cTake (z 5 p) (z 6 p) q).2) (z 3 p) _, ?_⟩
      refine And.intro rfl ⟨rfl, ?_⟩
      rw [← hres, cWr, if_neg h4, if_pos h5]
  · have h4 : z 4 p = 0 := h4
    refine And.intro (in_nI (by omega) (by omega)) ?_
    rw [cl_nI (by omega)]
    refine And.intro (fun h5 => ?_) (fun h5 => ?_)
    · have h5 : ¬ z 5 p = 0 := h5
      exact mid 0 h4 (by simp [bI, h5])
    · have h5 : z 5 p = 0 := h5
      refine And.intro (in_nI (by omega) (by omega)) ?_
      rw [cl_nI (by omega)]
      refine ⟨0, _, _, by decide, c_K_linkedBit l _ (z 6 p), ?_⟩
      refine ⟨0, _, _, by decide, c_K_has l z r S A ch (cTake (z 5 p) (z 6 p) q).2.1 (cTake (z 5 p) (z 6 p) q).2.2 (lB (z 6 p)), ?_⟩
      by_cases h6 : (cTake (z 5 p) (z 6 p) q).2.1 &&& lB (z 6 p) = 0
      · rw [show bI (¬ (cTake (z 5 p) (z 6 p) q).2.1 &&& lB (z 6 p) = 0) = 0 by simp [bI, h6]]
        refine And.intro (fun h7 => ?_) (fun h7 => absurd rfl h7)
        exact mid 0 h4 (by simp [bI, h6])
      · rw [show bI (¬ (cTake (z 5 p) (z 6 p) q).2.1 &&& lB (z 6 p) = 0) = 1 by simp [bI, h6]]
        refine And.intro (fun h7 => absurd h7 (by decide)) (fun h7 => ?_)
        exact mid 1 h4 (by rw [bI, if_pos ⟨h5, h6⟩])
end
/-- a state joined at a place: states, changed -/
abbrev SC : Type := (Nat → Int32) × Int32
def cTo (p : Nat) (s : Int32) (q : SC) : SC := if q.1 p &&& s = q.1 p then q else (upd q.1 p (q.1 p &&& s), 1)
section
variable (l : Launch) (z : Sg) (r : List va_E) (A : Nat → Int32)
set_option maxRecDepth 100000 in
set_option maxHeartbeats 1000000 in
theorem c_K_flowTo (q : SC) (k f : Int32) (p : Nat) (hp : p < 65) (s : Int32) {x : Int32} (hx : x = nI p := by rfl) : XMet l 0 q_K_flowTo [.ref 13, .int x, .int s] (wQ (sC z q.1 A q.2 k f) r) none (wQ (sC z (cTo p s q).1 A (cTo p s q).2 k f) r) := by
  subst hx
  refine xm_intro (by decide +kernel) (Nat.le_of_ble_eq_true rfl) ?_
  refine xw_go xcls ok_K_flowTo 40 [] ?_
  refine And.intro (in_nI (by omega) (by omega)) ?_
  rw [cl_nI (by omega)]
  refine And.intro (in_nI (by omega) (by omega)) ?_
  rw [cl_nI (by omega)]
  refine And.intro (fun h => ?_) (fun h => ?_)
  · have h : q.1 p &&& s = q.1 p := h
    exact And.intro rfl ⟨rfl, by rw [cTo, if_pos h]⟩
  · have h : ¬ q.1 p &&& s = q.1 p := h
    refine And.intro (in_nI (by omega) (by omega)) ?_
    rw [cl_nI (by omega)]
    refine And.intro (Or.inr rfl) ?_
    refine And.intro rfl ⟨rfl, ?_⟩
    rw [cTo, if_neg h]
    rfl
/-- at an atom: what is gained on the one way, what is known -/
def cAt (loc prt : Int32) (q : KF) : Int32 × KF := if prt = 0 then (sB loc, q) else if prt = 1 then (0, cUse loc q) else if prt = 2 then (lB loc, cUse loc q) else (0, q)
set_option maxRecDepth 100000 in
set_option maxHeartbeats 1000000 in
theorem c_K_flowFromAtom (sc : SC) (q : KF) (p : Nat) (hp : p < 65) (u v : Nat) (hu : z 7 p = nI u) (hv : z 8 p = nI v) (hu2 : u < 65) (hv2 : v < 65) : XMet l 2 q_K_flowFromAtom [.ref 13, .ref 0, .int (nI p)] (wQ (sC z sc.1 A sc.2 q.1 q.2) r) none
    (wQ (sC z (cTo v (cAt (z 3 p) (z 4 p) q).2.1 (cTo u ((cAt (z 3 p) (z 4 p) q).2.1 ||| (cAt (z 3 p) (z 4 p) q).1) sc)).1 A (cTo v (cAt (z 3 p) (z 4 p) q).2.1 (cTo u ((cAt (z 3 p) (z 4 p) q).2.1 ||| (cAt (z 3 p) (z 4 p) q).1) sc)).2 (cAt (z 3 p) (z 4 p) q).2.1 (cAt (z 3 p) (z 4 p) q).2.2) r) := by
  refine xm_intro (by decide +kernel) (Nat.le_of_ble_eq_true rfl) ?_
  generalize hg : cAt (z 3 p) (z 4 p) q = g
  have j : ∀ (gn : Int32) (q' : KF), g = (gn, q') → XW l 2 q_K_flowFromAtom (fun a b => a = none ∧ b = wQ (sC z (cTo v g.2.1 (cTo u (g.2.1 ||| g.1) sc)).1 A (cTo v g.2.1 (cTo u (g.2.1 ||| g.1) sc)).2 g.2.1 g.2.2) r) 67 [(0, .ref 13), (1, .ref 0), (2, .int (nI p)), (4, .int gn)] [] (wQ (sC z sc.1 A sc.2 q'.1 q'.2) r) := by
    intro gn q' e
    subst e
    refine xw_go xcls ok_K_flowFromAtom 40 [] ?_
    refine And.intro (in_nI (by omega) (by omega)) ?_
    rw [cl_nI (by omega)]
    refine ⟨0, _, _, by decide, c_K_flowTo l z r A sc q'.1 q'.2 u hu2 (q'.1 ||| gn) hu, ?_⟩
    refine And.intro (in_nI (by omega) (by omega)) ?_
    rw [cl_nI (by omega)]
    refine ⟨0, _, _, by decide, c_K_flowTo l z r A (cTo u (q'.1 ||| gn) sc) q'.1 q'.2 v hv2 q'.1 hv, ?_⟩
    exact And.intro rfl ⟨rfl, rfl⟩
  refine xw_go xcls ok_K_flowFromAtom 60 [(67, [0, 1, 2, 4])] ?_
  refine And.intro (in_nI (by omega) (by omega)) ?_
  rw [cl_nI (by omega)]
  refine And.intro (in_nI (by omega) (by omega)) ?_
  rw [cl_nI (by omega)]
  refine And.intro (fun h => ?_) (fun h => ?_)
  · have h : ¬ z 4 p = 0 := h
    refine And.intro (in_nI (by omega) (by omega)) ?_
    rw [cl_nI (by omega)]
    refine And.intro (fun h2 => ?_) (fun h2 => ?_)
    · have h2 : ¬ z 4 p = 1 := h2
      refine And.intro (in_nI (by omega) (by omega)) ?_
      rw [cl_nI (by omega)]
      refine And.intro (fun h3 => ?_) (fun h3 => ?_)
      · have h3 : ¬ z 4 p = 2 := h3
        exact j 0 q (by rw [← hg, cAt, if_neg h, if_neg h2, if_neg h3])
      · have h3 : z 4 p = 2 := h3
        refine ⟨1, _, _, by decide, c_K_use l z r sc.1 A sc.2 q (z 3 p), ?_⟩
        refine ⟨0, _, _, by decide, c_K_linkedBit l _ (z 3 p), ?_⟩
        exact j _ _ (by rw [← hg, cAt, if_neg h, if_neg h2, if_pos h3])
    · have h2 : z 4 p = 1 := h2
      refine ⟨1, _, _, by decide, c_K_use l z r sc.1 A sc.2 q (z 3 p), ?_⟩
      exact j _ _ (by rw [← hg, cAt, if_neg h, if_pos h2])
  · have h : z 4 p = 0 := h
    refine ⟨0, _, _, by decide, c_K_sureBit l _ (z 3 p), ?_⟩
    exact j _ _ (by rw [← hg, cAt, if_pos h])
end
