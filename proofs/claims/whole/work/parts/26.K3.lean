/-! Checker: places, rounds -/
/-- states, alarms, changed, known and found -/
abbrev CS : Type := (Nat → Int32) × (Nat → Int32) × Int32 × KF
def sCS (z : Sg) (s : CS) : Sg := sC z s.1 s.2.1 s.2.2.1 s.2.2.2.1 s.2.2.2.2
/-- the ways of a program: they are places -/
def KPr (z : Sg) (n : Nat) (u v : Nat → Nat) : Prop := ∀ p, p ≤ n → (z 2 p = 1 ∨ z 2 p = 2 ∨ z 2 p = 3 ∨ z 2 p = 5 → z 7 p = nI (u p) ∧ u p < 65) ∧ (z 2 p = 5 → z 8 p = nI (v p) ∧ v p < 65)
/-- the work at a place: states and changed, known and found -/
def cWk (z : Sg) (u v : Nat → Nat) (solid : Int32) (p : Nat) (sc : SC) : SC × KF :=
  if z 2 p = 1 then (cTo (u p) (cWr (z 3 p) (z 4 p) (z 5 p) (z 6 p) solid (sc.1 p, 0)).1 sc, cWr (z 3 p) (z 4 p) (z 5 p) (z 6 p) solid (sc.1 p, 0))
  else if z 2 p = 2 then (cTo (u p) (sc.1 p) sc, (sc.1 p, 0))
  else if z 2 p = 3 then (cTo (u p) (sc.1 p &&& -993) sc, (sc.1 p &&& -993, 0))
  else if z 2 p = 5 then (cTo (v p) (cAt (z 3 p) (z 4 p) (sc.1 p, 0)).2.1 (cTo (u p) ((cAt (z 3 p) (z 4 p) (sc.1 p, 0)).2.1 ||| (cAt (z 3 p) (z 4 p) (sc.1 p, 0)).1) sc), (cAt (z 3 p) (z 4 p) (sc.1 p, 0)).2)
  else (sc, (sc.1 p, 0))
def cFl (z : Sg) (u v : Nat → Nat) (solid : Int32) (p : Nat) (s : CS) : CS :=
  ((cWk z u v solid p (s.1, s.2.2.1)).1.1, upd s.2.1 p (cWk z u v solid p (s.1, s.2.2.1)).2.2, (cWk z u v solid p (s.1, s.2.2.1)).1.2, (cWk z u v solid p (s.1, s.2.2.1)).2)
section
variable (l : Launch) (z : Sg) (r : List va_E)
set_option maxRecDepth 100000 in
set_option maxHeartbeats 1000000 in
theorem c_K_flowFrom (n : Nat) (u v : Nat → Nat) (hk : KPr z n u v) (hn : n ≤ 64) (s : CS) (p : Nat) (hp : p ≤ n) (solid : Int32) : XMet l 4 q_K_flowFrom [.ref 13, .ref 0, .int (nI p), .int solid] (wQ (sCS z s) r) none (wQ (sCS z (cFl z u v solid p s)) r) := by
  obtain ⟨S, A, ch, k0, f0⟩ := s
  refine xm_intro (by decide +kernel) (Nat.le_of_ble_eq_true rfl) ?_
  generalize hg : cWk z u v solid p (S, ch) = g
  have hfl : cFl z u v solid p (S, A, ch, k0, f0) = (g.1.1, upd A p g.2.2, g.1.2, g.2) := by rw [← hg]; rfl
  rw [hfl]
  have j : ∀ (sc : SC) (q : KF), g = (sc, q) → XW l 4 q_K_flowFrom (fun a b => a = none ∧ b = wQ (sCS z (g.1.1, upd A p g.2.2, g.1.2, g.2)) r) 127 [(0, .ref 13), (2, .int (nI p))] [] (wQ (sC z sc.1 A sc.2 q.1 q.2) r) := by
    intro sc q e
    subst e
    refine xw_go xcls ok_K_flowFrom 40 [] ?_
    refine And.intro (in_nI (by omega) (by omega)) ?_
    rw [cl_nI (by omega)]
    exact And.intro rfl ⟨rfl, rfl⟩
  obtain ⟨hk1, hk2⟩ := hk p hp
  refine xw_go xcls ok_K_flowFrom 60 [(127, [0, 2])] ?_
  refine And.intro (in_nI (by omega) (by omega)) ?_
  rw [cl_nI (by omega)]
  refine And.intro trivial ?_
  refine And.intro trivial ?_
  refine And.intro (in_nI (by omega) (by omega)) ?_
  rw [cl_nI (by omega)]
  refine And.intro (fun h => ?_) (fun h1 => ?_)
  · have h : z 2 p = 1 := h
    obtain ⟨e1, e2⟩ := hk1 (Or.inl h)
    refine ⟨3, _, _, by decide, c_K_write l z r S A ch (S p, 0) p (by omega) solid, ?_⟩
    refine And.intro (in_nI (by omega) (by omega)) ?_
    rw [cl_nI (by omega)]
    refine ⟨0, _, _, by decide, c_K_flowTo l z r A (S, ch) (cWr (z 3 p) (z 4 p) (z 5 p) (z 6 p) solid (S p, 0)).1 (cWr (z 3 p) (z 4 p) (z 5 p) (z 6 p) solid (S p, 0)).2 (u p) e2 _ e1, ?_⟩
    exact j _ _ (by rw [← hg, cWk, if_pos h] <;> rfl)
  · have h1 : ¬ z 2 p = 1 := h1
    refine And.intro (fun h => ?_) (fun h2 => ?_)
    · have h : z 2 p = 2 := h
      obtain ⟨e1, e2⟩ := hk1 (Or.inr (Or.inl h))
      refine And.intro (in_nI (by omega) (by omega)) ?_
      rw [cl_nI (by omega)]
      refine ⟨0, _, _, by decide, c_K_flowTo l z r A (S, ch) (S p) 0 (u p) e2 _ e1, ?_⟩
      exact j _ (S p, 0) (by rw [← hg, cWk, if_neg h1, if_pos h] <;> rfl)
    · have h2 : ¬ z 2 p = 2 := h2
      refine And.intro (fun h => ?_) (fun h3 => ?_)
      · have h : z 2 p = 3 := h
        obtain ⟨e1, e2⟩ := hk1 (Or.inr (Or.inr (Or.inl h)))
        refine ⟨0, _, _, by decide, c_K_unlinkAll l z r S A ch (S p) 0, ?_⟩
        refine And.intro (in_nI (by omega) (by omega)) ?_
        rw [cl_nI (by omega)]
        refine ⟨0, _, _, by decide, c_K_flowTo l z r A (S, ch) (S p &&& -993) 0 (u p) e2 _ e1, ?_⟩
        exact j _ (S p &&& -993, 0) (by rw [← hg, cWk, if_neg h1, if_neg h2, if_pos h] <;> rfl)
      · have h3 : ¬ z 2 p = 3 := h3
        refine And.intro (fun h => ?_) (fun h4 => ?_)
        · have h : z 2 p = 4 := h
          exact j (S, ch) (S p, 0) (by rw [← hg, cWk, if_neg h1, if_neg h2, if_neg h3, if_neg (by rw [h]; decide)])
        · refine And.intro (fun h => ?_) (fun h5 => ?_)
          · have h : z 2 p = 5 := h
            obtain ⟨e1, e2⟩ := hk1 (Or.inr (Or.inr (Or.inr h)))
            obtain ⟨e3, e4⟩ := hk2 h
            refine ⟨2, _, _, by decide, c_K_flowFromAtom l z r A (S, ch) (S p, 0) p (by omega) (u p) (v p) e1 e3 e2 e4, ?_⟩
            exact j _ _ (by rw [← hg, cWk, if_neg h1, if_neg h2, if_neg h3, if_pos h])
          · have h5 : ¬ z 2 p = 5 := h5
            exact j (S, ch) (S p, 0) (by rw [← hg, cWk, if_neg h1, if_neg h2, if_neg h3, if_neg h5])
set_option maxRecDepth 100000 in
theorem c_K_isReached (s : CS) (p : Nat) (hp : p < 65) {x : Int32} (hx : x = nI p := by rfl) : XMet l 0 q_K_isReached [.ref 13, .int x] (wQ (sCS z s) r) (some (.int (bI (¬ s.1 p = -1)))) (wQ (sCS z s) r) := by
  subst hx
  refine xm_intro (by decide +kernel) (Nat.le_of_ble_eq_true rfl) ?_
  refine xw_go xcls ok_K_isReached 40 [] ?_
  refine And.intro (in_nI (by omega) (by omega)) ?_
  rw [cl_nI (by omega)]
  refine And.intro (fun h => ?_) (fun h => ?_)
  · have h : s.1 p = -1 := h
    exact And.intro (Or.inl rfl) ⟨by simp [bI, h], rfl⟩
  · have h : ¬ s.1 p = -1 := h
    exact And.intro (Or.inr rfl) ⟨by simp [bI, h], rfl⟩
set_option maxRecDepth 100000 in
theorem c_K_isSureAt (s : CS) (p : Nat) (hp : p < 65) (v : Int32) {x : Int32} (hx : x = nI p := by rfl) : XMet l 1 q_K_isSureAt [.ref 13, .int x, .int v] (wQ (sCS z s) r) (some (.int (bI (¬ s.1 p &&& sB v = 0)))) (wQ (sCS z s) r) := by
  subst hx
  refine xm_intro (by decide +kernel) (Nat.le_of_ble_eq_true rfl) ?_
  refine xw_go xcls ok_K_isSureAt 40 [] ?_
  refine And.intro (in_nI (by omega) (by omega)) ?_
  rw [cl_nI (by omega)]
  refine ⟨0, _, _, by decide, c_K_sureBit l _ v, ?_⟩
  refine And.intro (fun h => ?_) (fun h => ?_)
  · have h : s.1 p &&& sB v = 0 := h
    exact And.intro (Or.inl rfl) ⟨by simp [bI, h], rfl⟩
  · have h : ¬ s.1 p &&& sB v = 0 := h
    exact And.intro (Or.inr rfl) ⟨by simp [bI, h], rfl⟩
set_option maxRecDepth 100000 in
theorem c_K_isLinkedAt (s : CS) (p : Nat) (hp : p < 65) (v : Int32) {x : Int32} (hx : x = nI p := by rfl) : XMet l 1 q_K_isLinkedAt [.ref 13, .int x, .int v] (wQ (sCS z s) r) (some (.int (bI (¬ s.1 p &&& lB v = 0)))) (wQ (sCS z s) r) := by
  subst hx
  refine xm_intro (by decide +kernel) (Nat.le_of_ble_eq_true rfl) ?_
  refine xw_go xcls ok_K_isLinkedAt 40 [] ?_
  refine And.intro (in_nI (by omega) (by omega)) ?_
  rw [cl_nI (by omega)]
  refine ⟨0, _, _, by decide, c_K_linkedBit l _ v, ?_⟩
  refine And.intro (fun h => ?_) (fun h => ?_)
  · have h : s.1 p &&& lB v = 0 := h
    exact And.intro (Or.inl rfl) ⟨by simp [bI, h], rfl⟩
  · have h : ¬ s.1 p &&& lB v = 0 := h
    exact And.intro (Or.inr rfl) ⟨by simp [bI, h], rfl⟩
/-- how many of the first k places have an alarm -/
def cAl (A : Nat → Int32) : Nat → Nat
  | 0 => 0
  | k + 1 => cAl A k + if A k = 0 then 0 else 1
theorem cAl_le (A : Nat → Int32) : ∀ k, cAl A k ≤ k
  | 0 => Nat.le_refl _
  | k + 1 => by have := cAl_le A k; simp only [cAl]; split <;> omega
set_option maxRecDepth 100000 in
set_option maxHeartbeats 1000000 in
theorem lp_K_countAlarms (s : CS) : ∀ (m k : Nat), k + m = 65 → XW l 0 q_K_countAlarms (fun a b => a = some (.int (nI (cAl s.2.1 65))) ∧ b = wQ (sCS z s) r) 4 [(0, .ref 13), (1, .int (nI (cAl s.2.1 k))), (2, .int (nI k))] [] (wQ (sCS z s) r)
  | 0, k, hk => by
    have hk : k = 65 := hk
    subst hk
    refine xw_go xcls ok_K_countAlarms 40 [] ?_
    refine And.intro (fun h => ?_) (fun h => absurd (by decide) h)
    exact And.intro trivial ⟨rfl, rfl⟩
  | m + 1, k, hk => by
    have ih := lp_K_countAlarms s m (k + 1) (by omega)
    refine xw_go xcls ok_K_countAlarms 40 [(4, [0, 1, 2])] ?_
    refine And.intro (fun h => absurd h (by rw [show (65 : Int32) = nI 65 from rfl, nI_le' (by omega) (by omega)]; omega)) (fun h => ?_)
    refine And.intro (in_nI (by omega) (by omega)) ?_
    rw [cl_nI (by omega)]
    refine And.intro (fun h2 => ?_) (fun h2 => ?_)
    · have h2 : s.2.1 k = 0 := h2
      rw [show nI (cAl s.2.1 (k + 1)) = nI (cAl s.2.1 k) + 0 by rw [show (0 : Int32) = nI 0 from rfl, nI_add]; simp [cAl, h2], ← nI_p1] at ih
      exact ih
    · have h2 : ¬ s.2.1 k = 0 := h2
      rw [show nI (cAl s.2.1 (k + 1)) = nI (cAl s.2.1 k) + 1 by rw [nI_p1]; simp [cAl, h2], ← nI_p1 k] at ih
      exact ih
set_option maxRecDepth 100000 in
theorem c_K_countAlarms (s : CS) : XMet l 0 q_K_countAlarms [.ref 13] (wQ (sCS z s) r) (some (.int (nI (cAl s.2.1 65)))) (wQ (sCS z s) r) := by
  refine xm_intro (by decide +kernel) (Nat.le_of_ble_eq_true rfl) ?_
  refine xw_go xcls ok_K_countAlarms 40 [(4, [0, 1, 2])] ?_
  exact lp_K_countAlarms l z r s 65 0 (by omega)
/-- one round: m places from p on -/
def cIn (z : Sg) (u v : Nat → Nat) (solid : Int32) : Nat → Nat → CS → CS
  | 0, _, s => s
  | m + 1, p, s => cIn z u v solid m (p + 1) (if s.1 p = -1 then s else cFl z u v solid p s)
def cOut (z : Sg) (u v : Nat → Nat) (solid : Int32) (n : Nat) : Nat → CS → CS
  | 0, s => s
  | m + 1, s => if s.2.2.1 = 0 then s else cOut z u v solid n m (cIn z u v solid (n + 1) 0 (s.1, s.2.1, 0, s.2.2.2))
set_option maxRecDepth 100000 in
set_option maxHeartbeats 1000000 in
theorem lp_K_in (n : Nat) (u v : Nat → Nat) (hk : KPr z n u v) (hn : n ≤ 64) (hz : z 0 1 = nI n) (solid rd : Int32) (Rt : Option Value → List va_E → Prop) : ∀ (m p : Nat) (s : CS), p + m = n + 1 →
    XW l 5 q_K_check Rt 84 [(0, .ref 13), (1, .ref 0), (2, .int solid), (3, .int rd)] [] (wQ (sCS z (cIn z u v solid m p s)) r) →
    XW l 5 q_K_check Rt 52 [(0, .ref 13), (1, .ref 0), (2, .int solid), (3, .int rd), (4, .int (nI p))] [] (wQ (sCS z s) r)
  | 0, p, s, hp, K => by
    refine xw_go xcls ok_K_check 40 [(84, [0, 1, 2, 3])] ?_
    refine And.intro (fun h => ?_) (fun h => ?_)
    · exact K
    · have h : ¬ z 0 1 < nI p := h
      rw [hz, nI_lt' (by omega) (by omega)] at h
      omega
  | m + 1, p, s, hp, K => by
    refine xw_go xcls ok_K_check 40 [(84, [0, 1, 2, 3]), (52, [0, 1, 2, 3, 4])] ?_
    refine And.intro (fun h => ?_) (fun h => ?_)
    · have h : z 0 1 < nI p := h
      rw [hz, nI_lt' (by omega) (by omega)] at h
      omega
    · refine ⟨0, _, _, by decide, c_K_isReached l z r s p (by omega), ?_⟩
      by_cases hs : s.1 p = -1
      · rw [show bI (¬ s.1 p = -1) = 0 by simp [bI, hs]]
        refine And.intro (fun h2 => ?_) (fun h2 => absurd rfl h2)
        have ih := lp_K_in n u v hk hn hz solid rd Rt m (p + 1) s (by omega) (by simp only [cIn, if_pos hs] at K; exact K)
        rw [← nI_p1] at ih
        exact ih
      · rw [show bI (¬ s.1 p = -1) = 1 by simp [bI, hs]]
        refine And.intro (fun h2 => absurd h2 (by decide)) (fun h2 => ?_)
        refine ⟨4, _, _, by decide, c_K_flowFrom l z r n u v hk hn s p (by omega) solid, ?_⟩
        have ih := lp_K_in n u v hk hn hz solid rd Rt m (p + 1) (cFl z u v solid p s) (by omega) (by simp only [cIn, if_neg hs] at K; exact K)
        rw [← nI_p1] at ih
        exact ih
set_option maxRecDepth 100000 in
set_option maxHeartbeats 1000000 in
theorem lp_K_out (n : Nat) (u v : Nat → Nat) (hk : KPr z n u v) (hn : n ≤ 64) (hz : z 0 1 = nI n) (solid : Int32) : ∀ (m : Nat) (s : CS), m ≤ 716 →
    XW l 5 q_K_check (fun a b => a = none ∧ b = wQ (sCS z (cOut z u v solid n m s)) r) 30 [(0, .ref 13), (1, .ref 0), (2, .int solid), (3, .int (nI (716 - m)))] [] (wQ (sCS z s) r)
  | 0, s, hm => by
    refine xw_go xcls ok_K_check 40 [] ?_
    refine And.intro (fun h => ?_) (fun h => absurd (by decide) h)
    exact And.intro rfl ⟨rfl, rfl⟩
  | m + 1, s, hm => by
    refine xw_go xcls ok_K_check 40 [(52, [0, 1, 2, 3, 4])] ?_
    refine And.intro (fun h => absurd h (by rw [show (716 : Int32) = nI 716 from rfl, nI_le' (by omega) (by omega)]; omega)) (fun h => ?_)
    refine And.intro (fun h2 => ?_) (fun h2 => ?_)
    · have h2 : s.2.2.1 = 0 := h2
      exact And.intro rfl ⟨rfl, by simp only [cOut, if_pos h2]⟩
    · have h2 : ¬ s.2.2.1 = 0 := h2
      refine And.intro (Or.inl rfl) ?_
      have e : cOut z u v solid n (m + 1) s = cOut z u v solid n m (cIn z u v solid (n + 1) 0 (s.1, s.2.1, 0, s.2.2.2)) := by simp only [cOut, if_neg h2]
      rw [e]
      refine lp_K_in l z r n u v hk hn hz solid (nI (716 - (m + 1))) _ (n + 1) 0 (s.1, s.2.1, 0, s.2.2.2) (by omega) ?_
      refine xw_go xcls ok_K_check 40 [(30, [0, 1, 2, 3])] ?_
      have ih := lp_K_out n u v hk hn hz solid m (cIn z u v solid (n + 1) 0 (s.1, s.2.1, 0, s.2.2.2)) (by omega)
      rw [show nI (716 - m) = nI (716 - (m + 1)) + 1 by rw [nI_p1]; congr 1; omega] at ih
      exact ih
set_option maxRecDepth 100000 in
set_option maxHeartbeats 1000000 in
theorem c_K_check (n : Nat) (u v : Nat → Nat) (hk : KPr z n u v) (hn : n ≤ 64) (hz : z 0 1 = nI n) (solid : Int32) (s : CS) : XMet l 5 q_K_check [.ref 13, .ref 0, .int solid] (wQ (sCS z s) r) none (wQ (sCS z (cOut z u v solid n 716 (upd (fFill 65 s.1 (-1) 65) 0 solid, fFill 65 s.2.1 0 65, 1, s.2.2.2))) r) := by
  refine xm_intro (by decide +kernel) (Nat.le_of_ble_eq_true rfl) ?_
  refine xw_go xcls ok_K_check 40 [(30, [0, 1, 2, 3])] ?_
  refine ⟨0, _, _, by decide, c_JA_fill l (wQ (sCS z s) r) 14 65 s.1 (-1) rfl (by decide), ?_⟩
  refine ⟨0, _, _, by decide, c_JA_fill l _ 15 65 s.2.1 0 rfl (by decide), ?_⟩
  refine And.intro (in_nI (i := 0) (by omega) (by omega)) ?_
  refine And.intro (Or.inr rfl) ?_
  exact lp_K_out l z r n u v hk hn hz solid 716 (upd (fFill 65 s.1 (-1) 65) 0 solid, fFill 65 s.2.1 0 65, 1, s.2.2.2) (by omega)
end
