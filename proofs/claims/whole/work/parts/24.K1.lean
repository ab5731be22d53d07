/-! Checker: what is known at a place while its work is done -/
def sB (v : Int32) : Int32 := 1 <<< (v &&& 31)
def lB (v : Int32) : Int32 := 1 <<< ((5 + v) &&& 31)
def wQ (z : Sg) (r : List va_E) : List va_E := wP z (wC z r)
/-- states, alarms, changed, known, found -/
def sC (z : Sg) (S A : Nat → Int32) (ch k f : Int32) : Sg := us (us (us (uc (uc z 14 S) 15 A) 13 2 ch) 13 3 k) 13 4 f
set_option maxRecDepth 100000 in
theorem c_K_sureBit (l : Launch) (w : List va_E) (v : Int32) : XMet l 0 q_K_sureBit [.int v] w (some (.int (sB v))) w := by
  refine xm_intro (by decide +kernel) (Nat.le_of_ble_eq_true rfl) ?_
  refine xw_go xcls ok_K_sureBit 20 [] ?_
  exact And.intro trivial ⟨rfl, rfl⟩
set_option maxRecDepth 100000 in
theorem c_K_linkedBit (l : Launch) (w : List va_E) (v : Int32) : XMet l 0 q_K_linkedBit [.int v] w (some (.int (lB v))) w := by
  refine xm_intro (by decide +kernel) (Nat.le_of_ble_eq_true rfl) ?_
  refine xw_go xcls ok_K_linkedBit 20 [] ?_
  exact And.intro trivial ⟨rfl, rfl⟩
/-- 0 or 1 -/
def bI (p : Prop) [Decidable p] : Int32 := if p then 1 else 0
section
variable (l : Launch) (z : Sg) (r : List va_E) (S A : Nat → Int32) (ch : Int32)
set_option maxRecDepth 100000 in
theorem c_K_has (k f b : Int32) : XMet l 0 q_K_has [.ref 13, .int b] (wQ (sC z S A ch k f) r) (some (.int (bI (¬ k &&& b = 0)))) (wQ (sC z S A ch k f) r) := by
  refine xm_intro (by decide +kernel) (Nat.le_of_ble_eq_true rfl) ?_
  refine xw_go xcls ok_K_has 40 [] ?_
  refine And.intro (fun h => ?_) (fun h => ?_)
  · have h : k &&& b = 0 := h
    exact And.intro (Or.inl rfl) ⟨by simp [bI, h], rfl⟩
  · have h : ¬ k &&& b = 0 := h
    exact And.intro (Or.inr rfl) ⟨by simp [bI, h], rfl⟩
def cSet (b on k : Int32) : Int32 := if on = 0 then k &&& (b ^^^ -1) else k ||| b
set_option maxRecDepth 100000 in
theorem c_K_set (k f b on : Int32) : XMet l 0 q_K_set [.ref 13, .int b, .int on] (wQ (sC z S A ch k f) r) none (wQ (sC z S A ch (cSet b on k) f) r) := by
  refine xm_intro (by decide +kernel) (Nat.le_of_ble_eq_true rfl) ?_
  refine xw_go xcls ok_K_set 40 [] ?_
  refine And.intro (fun h => ?_) (fun h => ?_)
  · exact And.intro trivial (And.intro rfl ⟨rfl, by simp only [cSet, if_pos h]; rfl⟩)
  · exact And.intro trivial (And.intro rfl ⟨rfl, by simp only [cSet, if_neg h]; rfl⟩)
set_option maxRecDepth 100000 in
theorem c_K_unlinkAll (k f : Int32) : XMet l 0 q_K_unlinkAll [.ref 13] (wQ (sC z S A ch k f) r) none (wQ (sC z S A ch (k &&& -993) f) r) := by
  refine xm_intro (by decide +kernel) (Nat.le_of_ble_eq_true rfl) ?_
  refine xw_go xcls ok_K_unlinkAll 40 [] ?_
  exact And.intro trivial (And.intro rfl ⟨rfl, rfl⟩)
abbrev KF : Type := Int32 × Int32
def cUse (v : Int32) (q : KF) : KF := (q.1 ||| sB v, if q.1 &&& sB v = 0 then q.2 ||| 1 else q.2)
set_option maxRecDepth 100000 in
theorem c_K_use (q : KF) (v : Int32) : XMet l 1 q_K_use [.ref 13, .int v] (wQ (sC z S A ch q.1 q.2) r) none (wQ (sC z S A ch (cUse v q).1 (cUse v q).2) r) := by
  refine xm_intro (by decide +kernel) (Nat.le_of_ble_eq_true rfl) ?_
  have j : ∀ f : Int32, f = (cUse v q).2 → XW l 1 q_K_use (fun a b => a = none ∧ b = wQ (sC z S A ch (cUse v q).1 (cUse v q).2) r) 21 [(0, .ref 13), (1, .int v)] [] (wQ (sC z S A ch q.1 f) r) := by
    intro f hf
    subst hf
    refine xw_go xcls ok_K_use 40 [] ?_
    refine ⟨0, _, _, by decide, c_K_sureBit l _ v, ?_⟩
    exact And.intro trivial (And.intro rfl ⟨rfl, rfl⟩)
  refine xw_go xcls ok_K_use 40 [(21, [0, 1])] ?_
  refine ⟨0, _, _, by decide, c_K_sureBit l _ v, ?_⟩
  refine ⟨0, _, _, by decide, c_K_has l z r S A ch q.1 q.2 (sB v), ?_⟩
  by_cases h : q.1 &&& sB v = 0
  · rw [show bI (¬ q.1 &&& sB v = 0) = 0 by simp [bI, h]]
    refine And.intro (fun h2 => absurd rfl h2) (fun _ => ?_)
    refine And.intro trivial ?_
    exact j (q.2 ||| 1) (by simp [cUse, h])
  · rw [show bI (¬ q.1 &&& sB v = 0) = 1 by simp [bI, h]]
    refine And.intro (fun h2 => ?_) (fun h2 => absurd h2 (by decide))
    exact j q.2 (by simp [cUse, h])
def cTake (val src : Int32) (q : KF) : Int32 × KF := if val = 0 then (bI (¬ q.1 &&& sB src = 0), q) else if val = 1 then (1, cUse src q) else if val = 2 then (bI (¬ (cUse src q).1 &&& lB src = 0), cUse src q) else if val = 4 then (1, q) else if val = 5 then (0, (q.1 &&& -993, q.2)) else (0, q)
theorem bI_01 (p : Prop) [Decidable p] : bI p = 0 ∨ bI p = 1 := by unfold bI; split <;> simp
set_option maxRecDepth 100000 in
set_option maxHeartbeats 1000000 in
theorem c_K_takeValue (q : KF) (val src : Int32) : XMet l 2 q_K_takeValue [.ref 13, .int val, .int src] (wQ (sC z S A ch q.1 q.2) r) (some (.int (cTake val src q).1)) (wQ (sC z S A ch (cTake val src q).2.1 (cTake val src q).2.2) r) := by
  refine xm_intro (by decide +kernel) (Nat.le_of_ble_eq_true rfl) ?_
  refine xw_go xcls ok_K_takeValue 40 [] ?_
  refine And.intro (fun h => ?_) (fun h0 => ?_)
  · refine ⟨0, _, _, by decide, c_K_sureBit l _ src, ?_⟩
    refine ⟨0, _, _, by decide, c_K_has l z r S A ch q.1 q.2 (sB src), ?_⟩
    exact And.intro (bI_01 _) ⟨by simp [cTake, h], by simp [cTake, h]⟩
  · refine And.intro (fun h => ?_) (fun h1 => ?_)
    · refine ⟨1, _, _, by decide, c_K_use l z r S A ch q src, ?_⟩
      exact And.intro (Or.inr rfl) ⟨by simp [cTake, h], by simp [cTake, h]⟩
    · refine And.intro (fun h => ?_) (fun h2 => ?_)
      · refine ⟨1, _, _, by decide, c_K_use l z r S A ch q src, ?_⟩
        refine ⟨0, _, _, by decide, c_K_linkedBit l _ src, ?_⟩
        refine ⟨0, _, _, by decide, c_K_has l z r S A ch (cUse src q).1 (cUse src q).2 (lB src), ?_⟩
        exact And.intro (bI_01 _) ⟨by simp [cTake, h], by simp [cTake, h]⟩
      · refine And.intro (fun h => ?_) (fun h3 => ?_)
        · exact And.intro (Or.inl rfl) ⟨by simp [cTake, h], by simp [cTake, h]⟩
        · refine And.intro (fun h => ?_) (fun h4 => ?_)
          · exact And.intro (Or.inr rfl) ⟨by simp [cTake, h], by simp [cTake, h]⟩
          · refine And.intro (fun h => ?_) (fun h5 => ?_)
            · refine ⟨0, _, _, by decide, c_K_unlinkAll l z r S A ch q.1 q.2, ?_⟩
              exact And.intro (Or.inl rfl) ⟨by simp [cTake, h], by simp [cTake, h]⟩
            · exact And.intro (Or.inl rfl) ⟨by simp [cTake, h0, h1, h2, h4, h5], by simp [cTake, h0, h1, h2, h4, h5]⟩
def cWL (v vs vl iso : Int32) (q : KF) : KF := (cSet (lB v) vl (if ¬ iso = 0 ∧ vs = 0 then q.1 else cSet (sB v) vs q.1), if ¬ iso = 0 ∧ vs = 0 then q.2 ||| 2 else q.2)
set_option maxRecDepth 100000 in
set_option maxHeartbeats 1000000 in
theorem c_K_writeLocal (q : KF) (v vs vl iso : Int32) : XMet l 1 q_K_writeLocal [.ref 13, .int v, .int vs, .int vl, .int iso] (wQ (sC z S A ch q.1 q.2) r) none (wQ (sC z S A ch (cWL v vs vl iso q).1 (cWL v vs vl iso q).2) r) := by
  refine xm_intro (by decide +kernel) (Nat.le_of_ble_eq_true rfl) ?_
  have j : ∀ k f : Int32, k = (if ¬ iso = 0 ∧ vs = 0 then q.1 else cSet (sB v) vs q.1) → f = (if ¬ iso = 0 ∧ vs = 0 then q.2 ||| 2 else q.2) → XW l 1 q_K_writeLocal (fun a b => a = none ∧ b = wQ (sC z S A ch (cWL v vs vl iso q).1 (cWL v vs vl iso q).2) r) 31 [(0, .ref 13), (1, .int v), (3, .int vl)] [] (wQ (sC z S A ch k f) r) := by
    intro k f hk hf
    subst hk; subst hf
    refine xw_go xcls ok_K_writeLocal 40 [] ?_
    refine ⟨0, _, _, by decide, c_K_linkedBit l _ v, ?_⟩
    refine ⟨0, _, _, by decide, c_K_set l z r S A ch _ _ (lB v) vl, ?_⟩
    exact And.intro rfl ⟨rfl, rfl⟩
  have j2 : ¬ (¬ iso = 0 ∧ vs = 0) → XW l 1 q_K_writeLocal (fun a b => a = none ∧ b = wQ (sC z S A ch (cWL v vs vl iso q).1 (cWL v vs vl iso q).2) r) 22 [(0, .ref 13), (1, .int v), (2, .int vs), (3, .int vl)] [] (wQ (sC z S A ch q.1 q.2) r) := by
    intro hc
    refine xw_go xcls ok_K_writeLocal 40 [(31, [0, 1, 3])] ?_
    refine ⟨0, _, _, by decide, c_K_sureBit l _ v, ?_⟩
    refine ⟨0, _, _, by decide, c_K_set l z r S A ch _ _ (sB v) vs, ?_⟩
    exact j _ _ (by rw [if_neg hc]) (by rw [if_neg hc])
  refine xw_go xcls ok_K_writeLocal 40 [(31, [0, 1, 3]), (22, [0, 1, 2, 3])] ?_
  refine And.intro (fun h => j2 (fun c => c.1 h)) (fun h => ?_)
  refine And.intro (fun h2 => j2 (fun c => h2 c.2)) (fun h2 => ?_)
  refine And.intro trivial ?_
  exact j q.1 (q.2 ||| 2) (by rw [if_pos ⟨h, h2⟩]) (by rw [if_pos ⟨h, h2⟩])
def cWF (v vs : Int32) (q : KF) : KF := if vs = 0 then (q.1 &&& -993, q.2) else (q.1 ||| lB v, q.2)
set_option maxRecDepth 100000 in
set_option maxHeartbeats 1000000 in
theorem c_K_writeFieldH (q : KF) (v vs : Int32) : XMet l 1 q_K_writeFieldH [.ref 13, .int v, .int vs] (wQ (sC z S A ch q.1 q.2) r) none (wQ (sC z S A ch (cWF v vs q).1 (cWF v vs q).2) r) := by
  refine xm_intro (by decide +kernel) (Nat.le_of_ble_eq_true rfl) ?_
  refine xw_go xcls ok_K_writeFieldH 40 [] ?_
  refine And.intro (fun h => ?_) (fun h => ?_)
  · refine ⟨0, _, _, by decide, c_K_unlinkAll l z r S A ch q.1 q.2, ?_⟩
    exact And.intro rfl ⟨rfl, by simp [cWF, h]⟩
  · refine ⟨0, _, _, by decide, c_K_linkedBit l _ v, ?_⟩
    refine And.intro trivial (And.intro rfl ⟨rfl, ?_⟩)
    simp only [cWF, if_neg h]; rfl
end
