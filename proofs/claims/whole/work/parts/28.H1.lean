/-! Machine: objects, the oracle, values -/
/-- what the names hold, the fields g and h, how many objects, the oracle -/
abbrev MSt : Type := (Nat → Option Nat) × (Nat → Nat) × (Nat → Option Nat) × Nat × Int64
def sM (z : Sg) (m : MSt) (sc e : Int32) : Sg := uc (uc (uc (us (us (us z 16 3 (nI m.2.2.2.1)) 16 4 sc) 16 6 e) 17 (fun v => oI (m.1 v))) 18 (fun o => nI (m.2.1 o))) 19 (fun o => oI (m.2.2.1 o))
def wM (z : Sg) (m : MSt) (sc e : Int32) (r : List va_E) : List va_E := wP z (wC z (wH (sM z m sc e) m.2.2.2.2 r))
def MInv (m : MSt) : Prop := (∀ v o, m.1 v = some o → o < 8) ∧ (∀ o, m.2.1 o < 8) ∧ (∀ o q, m.2.2.1 o = some q → q < 8) ∧ 1 ≤ m.2.2.2.1 ∧ m.2.2.2.1 ≤ 8
/-- a function set anew at a place -/
def fu {α : Type} (f : Nat → α) (k : Nat) (x : α) : Nat → α := fun j => if j = k then x else f j
theorem fu_oI (f : Nat → Option Nat) (k : Nat) (x : Option Nat) : upd (fun v => oI (f v)) k (oI x) = fun v => oI (fu f k x v) := by
  funext j; unfold upd fu; split <;> rfl
theorem fu_nI (f : Nat → Nat) (k : Nat) (x : Nat) : upd (fun v => nI (f v)) k (nI x) = fun v => nI (fu f k x v) := by
  funext j; unfold upd fu; split <;> rfl
theorem wM_i {z z' : Sg} {m : MSt} {sc e : Int32} {r : List va_E} (h3 : z' 16 3 = nI m.2.2.2.1) (h4 : z' 16 4 = sc) (h6 : z' 16 6 = e) (h17 : z' 17 = fun v => oI (m.1 v)) (h18 : z' 18 = fun o => nI (m.2.1 o)) (h19 : z' 19 = fun o => oI (m.2.2.1 o)) : wP z (wC z (wH z' m.2.2.2.2 r)) = wM z m sc e r := by
  simp only [wM, wH]
  rw [h3, h4, h6, h17, h18, h19]
  rfl
section
variable (l : Launch) (z : Sg) (r : List va_E) (sc e : Int32)
def mTk (n : Nat) (m : MSt) : MSt := (m.1, m.2.1, m.2.2.1, m.2.2.2.1, shB n m.2.2.2.2)
set_option maxRecDepth 100000 in
theorem c_H_takeBits (m : MSt) (n : Nat) (hn : n = 1 ∨ n = 2) {x : Int32} (hx : x = nI n := by rfl) : XMet l 0 q_H_takeBits [.ref 16, .int x] (wM z m sc e r) (some (.int (nI (tkN n m.2.2.2.2)))) (wM z (mTk n m) sc e r) := by
  subst hx
  refine xm_intro (by decide +kernel) (Nat.le_of_ble_eq_true rfl) ?_
  refine xw_go xcls ok_H_takeBits 40 [] ?_
  refine And.intro trivial (And.intro trivial ⟨?_, rfl⟩)
  rcases hn with rfl | rfl
  · exact congrArg (fun x => some (Value.int x)) (tk_1 _)
  · exact congrArg (fun x => some (Value.int x)) (tk_2 _)
set_option maxRecDepth 100000 in
theorem c_H_existing (m : MSt) (hm : MInv m) (k : Nat) (hk : k < 1000) {x : Int32} (hx : x = nI k := by rfl) : XMet l 1 q_H_existing [.ref 16, .int x] (wM z m sc e r) (some (.int (nI (min k (m.2.2.2.1 - 1))))) (wM z m sc e r) := by
  obtain ⟨-, -, -, h1, h8⟩ := hm
  refine xm_intro (by decide +kernel) (Nat.le_of_ble_eq_true rfl) ?_
  refine xw_go xcls ok_H_existing 40 [] ?_
  refine And.intro trivial ⟨?_, rfl⟩
  show some (Value.int (if nI m.2.2.2.1 - nI 1 < x then nI m.2.2.2.1 - nI 1 else x)) = _
  rw [pk_sub h1, hx]
  by_cases q : m.2.2.2.1 - 1 < k
  · rw [if_pos ((nI_lt' (by omega) (by omega)).mpr q), Nat.min_eq_right (by omega)]
  · rw [if_neg (fun c => q ((nI_lt' (by omega) (by omega)).mp c)), Nat.min_eq_left (by omega)]
def mAsk (m : MSt) : Option Nat := if tkN 2 m.2.2.2.2 = 0 then none else some (min (tkN 2 m.2.2.2.2 - 1) (m.2.2.2.1 - 1))
set_option maxRecDepth 100000 in
theorem c_H_askOracle (m : MSt) (hm : MInv m) : XMet l 2 q_H_askOracle [.ref 16] (wM z m sc e r) (some (.int (oI (mAsk m)))) (wM z (mTk 2 m) sc e r) := by
  refine xm_intro (by decide +kernel) (Nat.le_of_ble_eq_true rfl) ?_
  refine xw_go xcls ok_H_askOracle 40 [] ?_
  refine ⟨0, _, _, by decide, c_H_takeBits l z r sc e m 2 (Or.inr rfl), ?_⟩
  have h4 := tkN_2 m.2.2.2.2
  refine And.intro (fun h => ?_) (fun h => ?_)
  · rw [show (0 : Int32) = nI 0 from rfl, nI_eq' (by omega) (by omega)] at h
    refine ⟨1, _, _, by decide, c_H_existing l z r sc e (mTk 2 m) hm (tkN 2 m.2.2.2.2 - 1) (by omega) (pk_sub (b := 1) (by omega)), ?_⟩
    exact And.intro trivial ⟨by simp [mAsk, h, oI, mTk], rfl⟩
  · rw [show (0 : Int32) = nI 0 from rfl, nI_eq' (by omega) (by omega)] at h
    exact And.intro trivial ⟨by simp [mAsk, h, oI], rfl⟩
def mMk (m : MSt) : Nat × MSt := if m.2.2.2.1 < 8 then (m.2.2.2.1, (m.1, fu m.2.1 m.2.2.2.1 m.2.2.2.1, fu m.2.2.1 m.2.2.2.1 none, m.2.2.2.1 + 1, m.2.2.2.2)) else (7, m)
set_option maxRecDepth 100000 in
set_option maxHeartbeats 1000000 in
theorem c_H_makeObject (m : MSt) (hm : m.2.2.2.1 ≤ 8) : XMet l 0 q_H_makeObject [.ref 16] (wM z m sc e r) (some (.int (nI (mMk m).1))) (wM z (mMk m).2 sc e r) := by
  obtain ⟨ho, g, h, k, b⟩ := m
  have hm : k ≤ 8 := hm
  refine xm_intro (by decide +kernel) (Nat.le_of_ble_eq_true rfl) ?_
  refine xw_go xcls ok_H_makeObject 40 [] ?_
  refine And.intro (fun q => ?_) (fun q => ?_)
  · have q : nI k < 8 := q
    rw [show (8 : Int32) = nI 8 from rfl, nI_lt' (by omega) (by omega)] at q
    have e0 : mMk (ho, g, h, k, b) = (k, (ho, fu g k k, fu h k none, k + 1, b)) := by simp [mMk, q]
    rw [e0]
    have e3 : sM z (ho, g, h, k, b) sc e 16 3 = nI k := rfl
    refine And.intro (by rw [e3]; exact in_nI (by omega) (by omega)) ?_
    rw [e3, cl_nI (by omega)]
    refine And.intro (by exact in_nI (by omega) (by omega)) ?_
    rw [cl_nI (by omega)]
    refine And.intro trivial (And.intro trivial ⟨rfl, ?_⟩)
    exact wM_i (z' := us (us (us (sM z (ho, g, h, k, b) sc e) 18 k (nI k)) 19 k (-1)) 16 3 (nI k + 1)) (m := (ho, fu g k k, fu h k none, k + 1, b)) (nI_p1 k) rfl rfl rfl (fu_nI g k k) (fu_oI h k none)
  · have q : ¬ nI k < 8 := q
    rw [show (8 : Int32) = nI 8 from rfl, nI_lt' (by omega) (by omega)] at q
    have e0 : mMk (ho, g, h, k, b) = (7, (ho, g, h, k, b)) := by simp [mMk, q]
    rw [e0]
    exact And.intro trivial ⟨rfl, rfl⟩
end
