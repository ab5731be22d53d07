/-! NullGuard: its methods -/
/-- the whole class: program, checker, machine, the solid names, whether checked -/
def wA (z : Sg) (s : CS) (m : MSt) (sc e so ck : Int32) : List va_E := wP z (wC (sCS z s) (wH (sM z m sc e) m.2.2.2.2 (wN (us (us z 20 3 so) 20 4 ck) [])))
section
variable (l : Launch) (z : Sg) (s : CS) (m : MSt) (sc e so ck : Int32)
def rA : List va_E := wC (sCS z s) (wH (sM z m sc e) m.2.2.2.2 (wN (us (us z 20 3 so) 20 4 ck) []))
def rB : List va_E := wH (sM z m sc e) m.2.2.2.2 (wN (us (us z 20 3 so) 20 4 ck) [])
def rC : List va_E := wN (us (us z 20 3 so) 20 4 ck) []
/-- what reading the text leaves -/
def zPar (t : Nat → Int32) (n : Nat) (z : Sg) (ex wy ow : Nat → Nat) : Sg := if (xPar t n z).1 = some n ∧ (xPar t n z).2.2 = [] then fLd (chr t n) ex wy ow (us (us (xPar t n z).2.1 0 2 1) 2 n 6) n else us (xPar t n z).2.1 0 2 0
def hPar (t : Nat → Int32) (n : Nat) (z : Sg) (ex wy ow : Nat → Nat) : Prop := (xPar t n z).1 = some n → (xPar t n z).2.2 = [] → (∀ p, chr t n p = 125 → (xPar t n z).2.1 9 p = nI (ex p) ∧ ex p < 65) ∧ (∀ p, p < n → ¬ (xPar t n z).2.1 2 p = 0 → (xPar t n z).2.1 7 p = nI (wy p) ∧ wy p < 900) ∧ (∀ p, p < n → (xPar t n z).2.1 2 p = 5 → (xPar t n z).2.1 8 p = nI (ow p) ∧ ow p < 900)
set_option maxRecDepth 100000 in
set_option maxHeartbeats 1000000 in
theorem c_N_type (x : Int64) {t : Nat → Int32} {n : Nat} (hp : PT z t n) (hc : canApp x n) (hp' : PT (sT z (fApp x 8 t n)) (fApp x 8 t n).1 (fApp x 8 t n).2) (ex wy ow : Nat → Nat) (hv : hPar (fApp x 8 t n).1 (fApp x 8 t n).2 (sT z (fApp x 8 t n)) ex wy ow) : XMet l 6 q_N_type [.ref 20, .long x] (wA z s m sc e so ck) (some (.int 1)) (wA (zPar (fApp x 8 t n).1 (fApp x 8 t n).2 (sT z (fApp x 8 t n)) ex wy ow) s m sc e so 0) := by
  refine xm_intro (by decide +kernel) (Nat.le_of_ble_eq_true rfl) ?_
  refine xw_go xcls ok_N_type 40 [] ?_
  refine ⟨2, _, _, by decide, c_P_append l z (rA z s m sc e so ck) x hp hc, ?_⟩
  refine And.intro (fun h => ?_) (fun h => absurd h (by decide))
  refine ⟨5, _, _, by decide, c_P_parse l (sT z (fApp x 8 t n)) (rA z s m sc e so ck) hp' ex wy ow hv, ?_⟩
  exact And.intro (Or.inl rfl) (And.intro (Or.inr rfl) ⟨rfl, rfl⟩)
set_option maxRecDepth 100000 in
set_option maxHeartbeats 1000000 in
theorem c_N_typeN (x : Int64) {t : Nat → Int32} {n : Nat} (hp : PT z t n) (hc : ¬ canApp x n) : XMet l 6 q_N_type [.ref 20, .long x] (wA z s m sc e so ck) (some (.int 0)) (wA z s m sc e so ck) := by
  refine xm_intro (by decide +kernel) (Nat.le_of_ble_eq_true rfl) ?_
  refine xw_go xcls ok_N_type 40 [] ?_
  refine ⟨2, _, _, by decide, c_P_appendN l z (rA z s m sc e so ck) x hp hc, ?_⟩
  refine And.intro (fun h => absurd rfl h) (fun h => ?_)
  exact And.intro (Or.inl rfl) ⟨rfl, rfl⟩
set_option maxRecDepth 100000 in
set_option maxHeartbeats 1000000 in
theorem c_N_wipe {t : Nat → Int32} (hp' : PT (us z 0 1 0) t 0) (ex wy ow : Nat → Nat) (hv : hPar t 0 (us z 0 1 0) ex wy ow) : XMet l 6 q_N_wipe [.ref 20] (wA z s m sc e so ck) none (wA (zPar t 0 (us z 0 1 0) ex wy ow) s m sc e so 0) := by
  refine xm_intro (by decide +kernel) (Nat.le_of_ble_eq_true rfl) ?_
  refine xw_go xcls ok_N_wipe 40 [] ?_
  refine ⟨0, _, _, by decide, c_P_clear l z (rA z s m sc e so ck), ?_⟩
  refine ⟨5, _, _, by decide, c_P_parse l (us z 0 1 0) (rA z s m sc e so ck) hp' ex wy ow hv, ?_⟩
  exact And.intro (Or.inl rfl) (And.intro rfl ⟨rfl, rfl⟩)
set_option maxRecDepth 100000 in
theorem c_N_length : XMet l 6 q_N_length [.ref 20] (wA z s m sc e so ck) (some (.int (z 0 1))) (wA z s m sc e so ck) := by
  refine xm_intro (by decide +kernel) (Nat.le_of_ble_eq_true rfl) ?_
  refine xw_go xcls ok_N_length 40 [] ?_
  exact And.intro trivial ⟨rfl, rfl⟩
/-- the number of a name -/
def isL (v : Int32) : Prop := 0 ≤ v ∧ v < 5
set_option maxRecDepth 100000 in
theorem c_N_isLocal (w : List va_E) (v b : Int32) (hb : (isL v ∧ b = 1) ∨ (¬ isL v ∧ b = 0)) : XMet l 0 q_N_isLocal [.int v] w (some (.int b)) w := by
  refine xm_intro (by decide +kernel) (Nat.le_of_ble_eq_true rfl) ?_
  refine xw_go xcls ok_N_isLocal 40 [] ?_
  refine And.intro (fun h => ?_) (fun h => ?_)
  · rcases hb with ⟨h1, -⟩ | ⟨-, rfl⟩
    · exact absurd h1.1 (Int32.not_le.mpr h)
    · exact And.intro (Or.inl rfl) ⟨rfl, rfl⟩
  · refine And.intro (fun h2 => ?_) (fun h2 => ?_)
    · rcases hb with ⟨h1, -⟩ | ⟨-, rfl⟩
      · exact absurd h1.2 (Int32.not_lt.mpr h2)
      · exact And.intro (Or.inl rfl) ⟨rfl, rfl⟩
    · rcases hb with ⟨-, rfl⟩ | ⟨h1, -⟩
      · exact And.intro (Or.inr rfl) ⟨rfl, rfl⟩
      · exact absurd ⟨Int32.not_lt.mp h, Int32.not_le.mp h2⟩ h1
set_option maxRecDepth 100000 in
set_option maxHeartbeats 1000000 in
theorem c_N_declare (v on : Int32) (hv : isL v) : XMet l 6 q_N_declare [.ref 20, .int v, .int on] (wA z s m sc e so ck) (some (.int 1)) (wA z s m sc e (cSet (sB v) on so) 0) := by
  refine xm_intro (by decide +kernel) (Nat.le_of_ble_eq_true rfl) ?_
  refine xw_go xcls ok_N_declare 40 [] ?_
  refine ⟨0, _, _, by decide, c_N_isLocal l _ v 1 (Or.inl ⟨hv, rfl⟩), ?_⟩
  refine And.intro (fun h => ?_) (fun h => absurd h (by decide))
  refine And.intro (fun h2 => ?_) (fun h2 => ?_)
  · exact And.intro trivial (And.intro (Or.inl rfl) (And.intro (Or.inr rfl) ⟨rfl, by simp only [cSet, if_pos h2]; rfl⟩))
  · exact And.intro trivial (And.intro (Or.inl rfl) (And.intro (Or.inr rfl) ⟨rfl, by simp only [cSet, if_neg h2]; rfl⟩))
set_option maxRecDepth 100000 in
set_option maxHeartbeats 1000000 in
theorem c_N_declareN (v on : Int32) (hv : ¬ isL v) : XMet l 6 q_N_declare [.ref 20, .int v, .int on] (wA z s m sc e so ck) (some (.int 0)) (wA z s m sc e so ck) := by
  refine xm_intro (by decide +kernel) (Nat.le_of_ble_eq_true rfl) ?_
  refine xw_go xcls ok_N_declare 40 [] ?_
  refine ⟨0, _, _, by decide, c_N_isLocal l _ v 0 (Or.inr ⟨hv, rfl⟩), ?_⟩
  refine And.intro (fun h => absurd rfl h) (fun h => ?_)
  exact And.intro (Or.inl rfl) ⟨rfl, rfl⟩
set_option maxRecDepth 100000 in
theorem c_N_statements : XMet l 6 q_N_statements [.ref 20] (wA z s m sc e so ck) (some (.int (if z 0 2 = 0 then -1 else z 0 3))) (wA z s m sc e so ck) := by
  refine xm_intro (by decide +kernel) (Nat.le_of_ble_eq_true rfl) ?_
  refine xw_go xcls ok_N_statements 40 [] ?_
  refine And.intro (fun h => ?_) (fun h => ?_)
  · have h : z 0 2 = 0 := h
    exact And.intro trivial ⟨by rw [if_pos h], rfl⟩
  · have h : ¬ z 0 2 = 0 := h
    exact And.intro trivial ⟨by rw [if_neg h], rfl⟩
/-- what is known of a program: checked once -/
def kn (z : Sg) (u v : Nat → Nat) (so : Int32) (n : Nat) (s : CS) : CS := cOut z u v so n 716 (upd (fFill 65 s.1 (-1) 65) 0 so, fFill 65 s.2.1 0 65, 1, s.2.2.2)
def knC (z : Sg) (u v : Nat → Nat) (so ck : Int32) (n : Nat) (s : CS) : CS := if ck = 0 then kn z u v so n s else s
set_option maxRecDepth 100000 in
set_option maxHeartbeats 1000000 in
theorem c_N_knowledge (n : Nat) (u v : Nat → Nat) (hk : KPr z n u v) (hn : n ≤ 64) (hz : z 0 1 = nI n) (hck : ck = 0 ∨ ck = 1) : XMet l 6 q_N_knowledge [.ref 20] (wA z s m sc e so ck) (some (.ref 13)) (wA z (knC z u v so ck n s) m sc e so 1) := by
  refine xm_intro (by decide +kernel) (Nat.le_of_ble_eq_true rfl) ?_
  refine xw_go xcls ok_N_knowledge 40 [] ?_
  refine And.intro (fun h => ?_) (fun h => ?_)
  · have h : ¬ ck = 0 := h
    have h1 : ck = 1 := hck.resolve_left h
    subst h1
    exact And.intro trivial ⟨rfl, by simp only [knC, if_neg h]⟩
  · have h : ck = 0 := h
    subst h
    refine ⟨5, _, _, by decide, c_K_check l z (rB z m sc e so 0) n u v hk hn hz so s, ?_⟩
    refine And.intro (Or.inr rfl) ?_
    exact And.intro trivial ⟨rfl, by simp only [knC, if_true]; rfl⟩
set_option maxRecDepth 100000 in
set_option maxHeartbeats 1000000 in
theorem c_N_alarms (n : Nat) (u v : Nat → Nat) (hk : KPr z n u v) (hn : n ≤ 64) (hz : z 0 1 = nI n) (hck : ck = 0 ∨ ck = 1) (hv : ¬ z 0 2 = 0) : XMet l 7 q_N_alarms [.ref 20] (wA z s m sc e so ck) (some (.int (nI (cAl (knC z u v so ck n s).2.1 65)))) (wA z (knC z u v so ck n s) m sc e so 1) := by
  refine xm_intro (by decide +kernel) (Nat.le_of_ble_eq_true rfl) ?_
  refine xw_go xcls ok_N_alarms 40 [] ?_
  refine And.intro (fun h => absurd h hv) (fun h => ?_)
  refine ⟨6, _, _, by decide, c_N_knowledge l z s m sc e so ck n u v hk hn hz hck, ?_⟩
  refine ⟨0, _, _, by decide, c_K_countAlarms l z (rB z m sc e so 1) (knC z u v so ck n s), ?_⟩
  exact And.intro trivial ⟨rfl, rfl⟩
set_option maxRecDepth 100000 in
theorem c_N_alarmsN (hv : z 0 2 = 0) : XMet l 7 q_N_alarms [.ref 20] (wA z s m sc e so ck) (some (.int (-1))) (wA z s m sc e so ck) := by
  refine xm_intro (by decide +kernel) (Nat.le_of_ble_eq_true rfl) ?_
  refine xw_go xcls ok_N_alarms 40 [] ?_
  refine And.intro (fun h => ?_) (fun h => absurd hv h)
  exact And.intro trivial ⟨rfl, rfl⟩
theorem le_nI {p : Int32} {n : Nat} (h0 : 0 ≤ p) (h1 : p ≤ nI n) (hn : n < 1000) : ∃ j, j ≤ n ∧ p = nI j := by
  obtain ⟨j, h2, rfl⟩ := nI_of (Int32.not_lt.mpr h0)
  rw [nI_leI (by omega) (by omega)] at h1
  exact ⟨j, h1, rfl⟩
set_option maxRecDepth 100000 in
set_option maxHeartbeats 1000000 in
theorem c_N_alarm {t : Nat → Int32} (n : Nat) (u v : Nat → Nat) (hp : PT z t n) (hk : KPr z n u v) (hck : ck = 0 ∨ ck = 1) (p : Int32) (hv : cntP z n p) : XMet l 7 q_N_alarm [.ref 20, .int p] (wA z s m sc e so ck) (some (.int ((knC z u v so ck n s).2.1 p.toNatClampNeg))) (wA z (knC z u v so ck n s) m sc e so 1) := by
  obtain ⟨j, hj, rfl⟩ := le_nI hv.2.1 hv.2.2.1 (by have := hp.2.1; omega)
  have hn := hp.2.1
  refine xm_intro (by decide +kernel) (Nat.le_of_ble_eq_true rfl) ?_
  refine xw_go xcls ok_N_alarm 40 [] ?_
  refine ⟨0, _, _, by decide, c_P_counts l z (rA z s m sc e so ck) (nI j) hp 1 (Or.inl ⟨hv, rfl⟩), ?_⟩
  refine And.intro (fun h => absurd h (by decide)) (fun h => ?_)
  refine ⟨6, _, _, by decide, c_N_knowledge l z s m sc e so ck n u v hk hn hp.1 hck, ?_⟩
  refine And.intro (in_nI (by omega) (by omega)) ?_
  exact And.intro trivial ⟨rfl, rfl⟩
set_option maxRecDepth 100000 in
theorem c_N_alarmN {t : Nat → Int32} (n : Nat) (hp : PT z t n) (p : Int32) (hv : ¬ cntP z n p) : XMet l 7 q_N_alarm [.ref 20, .int p] (wA z s m sc e so ck) (some (.int (-1))) (wA z s m sc e so ck) := by
  refine xm_intro (by decide +kernel) (Nat.le_of_ble_eq_true rfl) ?_
  refine xw_go xcls ok_N_alarm 40 [] ?_
  refine ⟨0, _, _, by decide, c_P_counts l z (rA z s m sc e so ck) p hp 0 (Or.inr ⟨hv, rfl⟩), ?_⟩
  refine And.intro (fun h => ?_) (fun h => absurd rfl h)
  exact And.intro trivial ⟨rfl, rfl⟩
theorem knC_1 {u v : Nat → Nat} {n : Nat} : knC z u v so 1 n s = s := by simp [knC]
set_option maxRecDepth 100000 in
set_option maxHeartbeats 1000000 in
theorem c_N_sure {t : Nat → Int32} (n : Nat) (u v : Nat → Nat) (hp : PT z t n) (hk : KPr z n u v) (hck : ck = 0 ∨ ck = 1) (p w : Int32) (hv : cntP z n p) (hw : isL w) : XMet l 7 q_N_sure [.ref 20, .int p, .int w] (wA z s m sc e so ck) (some (.int (if (knC z u v so ck n s).1 p.toNatClampNeg = -1 then 0 else if (knC z u v so ck n s).1 p.toNatClampNeg &&& sB w = 0 then 1 else 2))) (wA z (knC z u v so ck n s) m sc e so 1) := by
  obtain ⟨j, hj, rfl⟩ := le_nI hv.2.1 hv.2.2.1 (by have := hp.2.1; omega)
  have hn := hp.2.1
  rw [cl_nI (by omega)]
  refine xm_intro (by decide +kernel) (Nat.le_of_ble_eq_true rfl) ?_
  refine xw_go xcls ok_N_sure 40 [] ?_
  refine ⟨0, _, _, by decide, c_P_counts l z (rA z s m sc e so ck) (nI j) hp 1 (Or.inl ⟨hv, rfl⟩), ?_⟩
  refine And.intro (fun h => absurd h (by decide)) (fun h => ?_)
  refine ⟨0, _, _, by decide, c_N_isLocal l _ w 1 (Or.inl ⟨hw, rfl⟩), ?_⟩
  refine And.intro (fun h => ?_) (fun h => absurd h (by decide))
  refine ⟨6, _, _, by decide, c_N_knowledge l z s m sc e so ck n u v hk hn hp.1 hck, ?_⟩
  refine ⟨0, _, _, by decide, c_K_isReached l z (rB z m sc e so 1) (knC z u v so ck n s) j (by omega), ?_⟩
  by_cases q : (knC z u v so ck n s).1 j = -1
  · rw [show bI (¬ (knC z u v so ck n s).1 j = -1) = 0 by simp [bI, q], if_pos q]
    refine And.intro (fun h => absurd rfl h) (fun h => ?_)
    exact And.intro trivial ⟨rfl, rfl⟩
  · rw [show bI (¬ (knC z u v so ck n s).1 j = -1) = 1 by simp [bI, q], if_neg q]
    refine And.intro (fun h => ?_) (fun h => absurd h (by decide))
    refine ⟨6, _, _, by decide, c_N_knowledge l z (knC z u v so ck n s) m sc e so 1 n u v hk hn hp.1 (Or.inr rfl), ?_⟩
    rw [knC_1]
    refine ⟨1, _, _, by decide, c_K_isSureAt l z (rB z m sc e so 1) (knC z u v so ck n s) j (by omega) w, ?_⟩
    by_cases q2 : (knC z u v so ck n s).1 j &&& sB w = 0
    · rw [show bI (¬ (knC z u v so ck n s).1 j &&& sB w = 0) = 0 by simp [bI, q2], if_pos q2]
      refine And.intro (fun h => ?_) (fun h => absurd rfl h)
      exact And.intro trivial ⟨rfl, rfl⟩
    · rw [show bI (¬ (knC z u v so ck n s).1 j &&& sB w = 0) = 1 by simp [bI, q2], if_neg q2]
      refine And.intro (fun h => absurd h (by decide)) (fun h => ?_)
      exact And.intro trivial ⟨rfl, rfl⟩
set_option maxRecDepth 100000 in
set_option maxHeartbeats 1000000 in
theorem c_N_sureN {t : Nat → Int32} (n : Nat) (hp : PT z t n) (p w : Int32) (hv : ¬ (cntP z n p ∧ isL w)) : XMet l 7 q_N_sure [.ref 20, .int p, .int w] (wA z s m sc e so ck) (some (.int (-1))) (wA z s m sc e so ck) := by
  refine xm_intro (by decide +kernel) (Nat.le_of_ble_eq_true rfl) ?_
  refine xw_go xcls ok_N_sure 40 [] ?_
  by_cases q : cntP z n p
  · refine ⟨0, _, _, by decide, c_P_counts l z (rA z s m sc e so ck) p hp 1 (Or.inl ⟨q, rfl⟩), ?_⟩
    refine And.intro (fun h => absurd h (by decide)) (fun h => ?_)
    refine ⟨0, _, _, by decide, c_N_isLocal l _ w 0 (Or.inr ⟨fun c => hv ⟨q, c⟩, rfl⟩), ?_⟩
    refine And.intro (fun h => absurd rfl h) (fun h => ?_)
    exact And.intro trivial ⟨rfl, rfl⟩
  · refine ⟨0, _, _, by decide, c_P_counts l z (rA z s m sc e so ck) p hp 0 (Or.inr ⟨q, rfl⟩), ?_⟩
    refine And.intro (fun h => ?_) (fun h => absurd rfl h)
    exact And.intro trivial ⟨rfl, rfl⟩
set_option maxRecDepth 100000 in
set_option maxHeartbeats 1000000 in
theorem c_N_linked {t : Nat → Int32} (n : Nat) (u v : Nat → Nat) (hp : PT z t n) (hk : KPr z n u v) (hck : ck = 0 ∨ ck = 1) (p w : Int32) (hv : cntP z n p) (hw : isL w) : XMet l 7 q_N_linked [.ref 20, .int p, .int w] (wA z s m sc e so ck) (some (.int (if (knC z u v so ck n s).1 p.toNatClampNeg = -1 then 0 else if (knC z u v so ck n s).1 p.toNatClampNeg &&& lB w = 0 then 0 else 1))) (wA z (knC z u v so ck n s) m sc e so 1) := by
  obtain ⟨j, hj, rfl⟩ := le_nI hv.2.1 hv.2.2.1 (by have := hp.2.1; omega)
  have hn := hp.2.1
  rw [cl_nI (by omega)]
  refine xm_intro (by decide +kernel) (Nat.le_of_ble_eq_true rfl) ?_
  refine xw_go xcls ok_N_linked 40 [] ?_
  refine ⟨0, _, _, by decide, c_P_counts l z (rA z s m sc e so ck) (nI j) hp 1 (Or.inl ⟨hv, rfl⟩), ?_⟩
  refine And.intro (fun h => absurd h (by decide)) (fun h => ?_)
  refine ⟨0, _, _, by decide, c_N_isLocal l _ w 1 (Or.inl ⟨hw, rfl⟩), ?_⟩
  refine And.intro (fun h => absurd h (by decide)) (fun h => ?_)
  refine ⟨6, _, _, by decide, c_N_knowledge l z s m sc e so ck n u v hk hn hp.1 hck, ?_⟩
  refine ⟨0, _, _, by decide, c_K_isReached l z (rB z m sc e so 1) (knC z u v so ck n s) j (by omega), ?_⟩
  by_cases q : (knC z u v so ck n s).1 j = -1
  · rw [show bI (¬ (knC z u v so ck n s).1 j = -1) = 0 by simp [bI, q], if_pos q]
    refine And.intro (fun h => ?_) (fun h => absurd rfl h)
    exact And.intro (Or.inl rfl) ⟨rfl, rfl⟩
  · rw [show bI (¬ (knC z u v so ck n s).1 j = -1) = 1 by simp [bI, q], if_neg q]
    refine And.intro (fun h => absurd h (by decide)) (fun h => ?_)
    refine ⟨6, _, _, by decide, c_N_knowledge l z (knC z u v so ck n s) m sc e so 1 n u v hk hn hp.1 (Or.inr rfl), ?_⟩
    rw [knC_1]
    refine ⟨1, _, _, by decide, c_K_isLinkedAt l z (rB z m sc e so 1) (knC z u v so ck n s) j (by omega) w, ?_⟩
    by_cases q2 : (knC z u v so ck n s).1 j &&& lB w = 0
    · rw [show bI (¬ (knC z u v so ck n s).1 j &&& lB w = 0) = 0 by simp [bI, q2], if_pos q2]
      refine And.intro (fun h => ?_) (fun h => absurd rfl h)
      exact And.intro (Or.inl rfl) ⟨rfl, rfl⟩
    · rw [show bI (¬ (knC z u v so ck n s).1 j &&& lB w = 0) = 1 by simp [bI, q2], if_neg q2]
      refine And.intro (fun h => absurd h (by decide)) (fun h => ?_)
      exact And.intro (Or.inr rfl) ⟨rfl, rfl⟩
set_option maxRecDepth 100000 in
set_option maxHeartbeats 1000000 in
theorem c_N_linkedN {t : Nat → Int32} (n : Nat) (hp : PT z t n) (p w : Int32) (hv : ¬ (cntP z n p ∧ isL w)) : XMet l 7 q_N_linked [.ref 20, .int p, .int w] (wA z s m sc e so ck) (some (.int 0)) (wA z s m sc e so ck) := by
  refine xm_intro (by decide +kernel) (Nat.le_of_ble_eq_true rfl) ?_
  refine xw_go xcls ok_N_linked 40 [] ?_
  by_cases q : cntP z n p
  · refine ⟨0, _, _, by decide, c_P_counts l z (rA z s m sc e so ck) p hp 1 (Or.inl ⟨q, rfl⟩), ?_⟩
    refine And.intro (fun h => absurd h (by decide)) (fun h => ?_)
    refine ⟨0, _, _, by decide, c_N_isLocal l _ w 0 (Or.inr ⟨fun c => hv ⟨q, c⟩, rfl⟩), ?_⟩
    refine And.intro (fun h => ?_) (fun h => absurd rfl h)
    exact And.intro (Or.inl rfl) ⟨rfl, rfl⟩
  · refine ⟨0, _, _, by decide, c_P_counts l z (rA z s m sc e so ck) p hp 0 (Or.inr ⟨q, rfl⟩), ?_⟩
    refine And.intro (fun h => ?_) (fun h => absurd rfl h)
    exact And.intro (Or.inl rfl) ⟨rfl, rfl⟩
theorem mRun_c {z z' : Sg} {u v lo so : Nat → Nat} {solid : Int32} (h2 : z' 2 = z 2) (h4 : z' 4 = z 4) (h5 : z' 5 = z 5) : ∀ (f k p : Nat) (m : MSt), mRun z' u v lo so solid f k p m = mRun z u v lo so solid f k p m := by
  have hv : ∀ p m, mVis z' u v lo so solid p m = mVis z u v lo so solid p m := fun p m => by simp only [mVis, h2, h4, h5]
  intro f
  induction f with
  | zero => intro k p m; rfl
  | succ f ih => intro k p m; simp only [mRun, hv, ih]
set_option maxRecDepth 100000 in
set_option maxHeartbeats 1000000 in
theorem c_N_run (n : Nat) (u v lo sr : Nat → Nat) (hk : KPr z n u v) (hkn : KN z n u v) (hr : RPr z n lo sr) (hn : n ≤ 64) (hm : MI0 m) (start : Int32) (b : Int64) (hv : ¬ z 0 2 = 0) : XMet l 7 q_N_run [.ref 20, .int start, .long b] (wA z s m sc e so ck) (some (.int (mRun z u v lo sr so 200 0 0 (mPrep (so ||| start) b m)).1)) (wA z s (mRun z u v lo sr so 200 0 0 (mPrep (so ||| start) b m)).2.1 (nI (mRun z u v lo sr so 200 0 0 (mPrep (so ||| start) b m)).2.2.1) (mRun z u v lo sr so 200 0 0 (mPrep (so ||| start) b m)).2.2.2 so ck) := by
  rw [← mRun_c (z' := sCS z s) (z := z) rfl rfl rfl]
  refine xm_intro (by decide +kernel) (Nat.le_of_ble_eq_true rfl) ?_
  refine xw_go xcls ok_N_run 40 [] ?_
  refine And.intro (fun h => absurd h hv) (fun h => ?_)
  generalize hg : mRun (sCS z s) u v lo sr so 200 0 0 (mPrep (so ||| start) b m) = g
  have hx := c_H_execute l (sCS z s) (rC z so ck) n u v lo sr hk hkn hr hn so start b m hm sc e
  rw [hg] at hx
  refine ⟨6, _, _, by decide, hx, ?_⟩
  exact And.intro trivial ⟨rfl, rfl⟩
set_option maxRecDepth 100000 in
theorem c_N_runN (start : Int32) (b : Int64) (hv : z 0 2 = 0) : XMet l 7 q_N_run [.ref 20, .int start, .long b] (wA z s m sc e so ck) (some (.int (-1))) (wA z s m sc e so ck) := by
  refine xm_intro (by decide +kernel) (Nat.le_of_ble_eq_true rfl) ?_
  refine xw_go xcls ok_N_run 40 [] ?_
  refine And.intro (fun h => ?_) (fun h => absurd hv h)
  exact And.intro trivial ⟨rfl, rfl⟩
theorem isL_n {v : Int32} (h : isL v) : ∃ j, j < 5 ∧ v = nI j := by
  obtain ⟨j, h2, rfl⟩ := nI_of (Int32.not_lt.mpr h.1)
  have := h.2
  rw [show (5 : Int32) = nI 5 from rfl, nI_ltI (by omega) (by omega)] at this
  exact ⟨j, this, rfl⟩
set_option maxRecDepth 100000 in
theorem c_N_held (v : Int32) (hv : isL v) : XMet l 7 q_N_held [.ref 20, .int v] (wA z s m sc e so ck) (some (.int (oI (m.1 v.toNatClampNeg)))) (wA z s m sc e so ck) := by
  obtain ⟨j, hj, rfl⟩ := isL_n hv
  refine xm_intro (by decide +kernel) (Nat.le_of_ble_eq_true rfl) ?_
  refine xw_go xcls ok_N_held 40 [] ?_
  refine ⟨0, _, _, by decide, c_N_isLocal l _ (nI j) 1 (Or.inl ⟨hv, rfl⟩), ?_⟩
  refine And.intro (fun h => absurd h (by decide)) (fun h => ?_)
  refine And.intro (in_nI (by omega) (by omega)) ?_
  exact And.intro trivial ⟨rfl, rfl⟩
set_option maxRecDepth 100000 in
theorem c_N_heldN (v : Int32) (hv : ¬ isL v) : XMet l 7 q_N_held [.ref 20, .int v] (wA z s m sc e so ck) (some (.int (-1))) (wA z s m sc e so ck) := by
  refine xm_intro (by decide +kernel) (Nat.le_of_ble_eq_true rfl) ?_
  refine xw_go xcls ok_N_held 40 [] ?_
  refine ⟨0, _, _, by decide, c_N_isLocal l _ v 0 (Or.inr ⟨hv, rfl⟩), ?_⟩
  refine And.intro (fun h => ?_) (fun h => absurd rfl h)
  exact And.intro trivial ⟨rfl, rfl⟩
def isO (m : MSt) (o : Int32) : Prop := 0 ≤ o ∧ o < nI m.2.2.2.1
theorem isO_n {m : MSt} {o : Int32} (hm : m.2.2.2.1 ≤ 8) (h : isO m o) : ∃ j, j < m.2.2.2.1 ∧ o = nI j := by
  obtain ⟨j, h2, rfl⟩ := nI_of (Int32.not_lt.mpr h.1)
  have := h.2
  rw [nI_ltI (by omega) (by omega)] at this
  exact ⟨j, this, rfl⟩
set_option maxRecDepth 100000 in
set_option maxHeartbeats 1000000 in
theorem c_N_field (hm : m.2.2.2.1 ≤ 8) (o f : Int32) (ho : isO m o) : XMet l 7 q_N_field [.ref 20, .int o, .int f] (wA z s m sc e so ck) (some (.int (if f = 0 then nI (m.2.1 o.toNatClampNeg) else if f = 1 then oI (m.2.2.1 o.toNatClampNeg) else -1))) (wA z s m sc e so ck) := by
  obtain ⟨j, hj, rfl⟩ := isO_n hm ho
  refine xm_intro (by decide +kernel) (Nat.le_of_ble_eq_true rfl) ?_
  refine xw_go xcls ok_N_field 40 [] ?_
  refine And.intro (fun h => absurd h (nI_n0 (by omega))) (fun h => ?_)
  refine And.intro (fun h2 => ?_) (fun h2 => absurd ho.2 h2)
  refine And.intro (fun h3 => ?_) (fun h3 => ?_)
  · refine And.intro (fun h4 => ?_) (fun h4 => ?_)
    · exact And.intro trivial ⟨by rw [if_neg h3, if_neg h4], rfl⟩
    · refine And.intro (in_nI (by omega) (by omega)) ?_
      exact And.intro trivial ⟨by rw [if_neg h3, if_pos h4]; rfl, rfl⟩
  · refine And.intro (in_nI (by omega) (by omega)) ?_
    exact And.intro trivial ⟨by rw [if_pos h3]; rfl, rfl⟩
set_option maxRecDepth 100000 in
set_option maxHeartbeats 1000000 in
theorem c_N_fieldN (o f : Int32) (ho : ¬ isO m o) : XMet l 7 q_N_field [.ref 20, .int o, .int f] (wA z s m sc e so ck) (some (.int (-1))) (wA z s m sc e so ck) := by
  refine xm_intro (by decide +kernel) (Nat.le_of_ble_eq_true rfl) ?_
  refine xw_go xcls ok_N_field 40 [] ?_
  refine And.intro (fun h => ?_) (fun h => ?_)
  · exact And.intro trivial ⟨rfl, rfl⟩
  · refine And.intro (fun h2 => absurd ⟨Int32.not_lt.mp h, h2⟩ ho) (fun h2 => ?_)
    exact And.intro trivial ⟨rfl, rfl⟩
set_option maxRecDepth 100000 in
theorem c_N_objects : XMet l 7 q_N_objects [.ref 20] (wA z s m sc e so ck) (some (.int (nI m.2.2.2.1))) (wA z s m sc e so ck) := by
  refine xm_intro (by decide +kernel) (Nat.le_of_ble_eq_true rfl) ?_
  refine xw_go xcls ok_N_objects 40 [] ?_
  exact And.intro trivial ⟨rfl, rfl⟩
set_option maxRecDepth 100000 in
theorem c_N_steps : XMet l 7 q_N_steps [.ref 20] (wA z s m sc e so ck) (some (.int sc)) (wA z s m sc e so ck) := by
  refine xm_intro (by decide +kernel) (Nat.le_of_ble_eq_true rfl) ?_
  refine xw_go xcls ok_N_steps 40 [] ?_
  exact And.intro trivial ⟨rfl, rfl⟩
end
