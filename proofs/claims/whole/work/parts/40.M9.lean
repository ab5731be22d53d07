/-! The reference: alarm, sure, linked, type, wipe, length, declare -/
def cntM (t : Nat → Int32) (n : Nat) (y : Sg) (p : Int32) : Prop := inT n p ∧ mOk t n y ∧ 0 < yP t n y 3 p.toNatClampNeg
/-- what a question leaves that is not answered -/
noncomputable def yF (t : Nat → Int32) (n : Nat) (y : Sg) (p : Int32) : Sg := by
  classical exact if ¬ inT n p then y else if ¬ mOk t n y then (mPar t n y).2.1 else yP t n y
section
variable (l : Launch) (y : Sg) (b : Int64) {t : Nat → Int32} {n : Nat}
theorem c_M_cntF (hp : MT y t n) (p : Int32) (h : ¬ cntM t n y p) : XMet l 6 q_M_counts [.ref 0, .int p] (vM y b) (some (.int 0)) (vM (yF t n y p) b) := by
  unfold yF
  by_cases h1 : inT n p
  · rw [if_neg (fun c => c h1)]
    by_cases h2 : mOk t n y
    · rw [if_neg (fun c => c h2)]
      obtain ⟨j, hj, rfl⟩ := le_nI h1.1 h1.2 (by have := hp.2.1; omega)
      have hc := c_M_counts l y b hp j hj h2
      have hn := hp.2.1
      rw [show bI (0 < yP t n y 3 j) = 0 by rw [bI, if_neg (fun c => h ⟨h1, h2, by rw [cl_nI (by omega)]; exact c⟩)]] at hc
      exact hc
    · rw [if_pos h2]
      exact c_M_countsN l y b hp p h1 h2
  · rw [if_pos h1]
    exact c_M_countsO l y b hp p h1
theorem c_M_cntY (hp : MT y t n) (p : Nat) (h : cntM t n y (nI p)) (hpn : p ≤ n) : XMet l 6 q_M_counts [.ref 0, .int (nI p)] (vM y b) (some (.int 1)) (vM (yP t n y) b) := by
  have hn := hp.2.1
  have hc := c_M_counts l y b hp p hpn h.2.1
  have h3 := h.2.2
  rw [cl_nI (by omega)] at h3
  rw [show bI (0 < yP t n y 3 p) = 1 by rw [bI, if_pos h3]] at hc
  exact hc
set_option maxRecDepth 100000 in
theorem c_M_alarmN (hp : MT y t n) (p : Int32) (h : ¬ cntM t n y p) : XMet l 7 q_M_alarm [.ref 0, .int p] (vM y b) (some (.int (-1))) (vM (yF t n y p) b) := by
  refine xm_intro (by decide +kernel) (Nat.le_of_ble_eq_true rfl) ?_
  refine xw_go xcls ok_M_alarm 40 [] ?_
  refine ⟨6, _, _, by decide, c_M_cntF l y b hp p h, ?_⟩
  refine And.intro (fun c => absurd rfl c) (fun _ => ?_)
  exact And.intro trivial ⟨rfl, rfl⟩
set_option maxRecDepth 100000 in
set_option maxHeartbeats 1000000 in
theorem c_M_alarm (w u v : Nat → Nat) (hp : MT y t n) (p : Nat) (hpn : p ≤ n) (h : cntM t n y (nI p)) (hm : MPr (yP t n y) (chr t n) n w u v) : XMet l 7 q_M_alarm [.ref 0, .int (nI p)] (vM y b) (some (.int (yE t n w u v y 12 p))) (vM (yE t n w u v y) b) := by
  have hn := hp.2.1
  have hs := c_M_studyP l y b w u v hp hm
  refine xm_intro (by decide +kernel) (Nat.le_of_ble_eq_true rfl) ?_
  refine xw_go xcls ok_M_alarm 40 [] ?_
  refine ⟨6, _, _, by decide, c_M_cntY l y b hp p h hpn, ?_⟩
  refine And.intro (fun _ => ?_) (fun c => absurd c (by decide))
  refine ⟨6, _, _, by decide, hs, ?_⟩
  generalize yE t n w u v y = z
  refine And.intro (in_nI (by omega) (by omega)) ?_
  rw [cl_nI (by omega)]
  exact And.intro trivial ⟨rfl, rfl⟩
theorem isL_4 {v : Int32} : isL v ↔ 0 ≤ v ∧ v ≤ 4 := by
  constructor
  · intro h
    obtain ⟨j, hj, rfl⟩ := isL_n h
    exact ⟨h.1, by rw [show (4 : Int32) = nI 4 from rfl, nI_le' (by omega) (by omega)]; omega⟩
  · intro h
    obtain ⟨j, hj, rfl⟩ := le_nI h.1 (by rw [show nI 4 = (4 : Int32) from rfl]; exact h.2) (by omega)
    exact ⟨h.1, by rw [show (5 : Int32) = nI 5 from rfl, nI_lt' (by omega) (by omega)]; omega⟩
set_option maxRecDepth 100000 in
theorem c_M_sureO (x v : Int32) (h : ¬ isL v) : XMet l 7 q_M_sure [.ref 0, .int x, .int v] (vM y b) (some (.int (-1))) (vM y b) := by
  refine xm_intro (by decide +kernel) (Nat.le_of_ble_eq_true rfl) ?_
  refine xw_go xcls ok_M_sure 40 [] ?_
  refine And.intro (fun _ => ?_) (fun h1 => ?_)
  · exact And.intro trivial ⟨rfl, rfl⟩
  · refine And.intro (fun _ => ?_) (fun h2 => ?_)
    · exact And.intro trivial ⟨rfl, rfl⟩
    · exact absurd (isL_4.mpr ⟨Int32.not_lt.mp h1, Int32.not_lt.mp h2⟩) h
set_option maxRecDepth 100000 in
theorem c_M_sureN (hp : MT y t n) (x v : Int32) (hv : isL v) (h : ¬ cntM t n y x) : XMet l 7 q_M_sure [.ref 0, .int x, .int v] (vM y b) (some (.int (-1))) (vM (yF t n y x) b) := by
  have h4 := isL_4.mp hv
  refine xm_intro (by decide +kernel) (Nat.le_of_ble_eq_true rfl) ?_
  refine xw_go xcls ok_M_sure 40 [] ?_
  refine And.intro (fun c => absurd h4.1 (Int32.not_le.mpr c)) (fun _ => ?_)
  refine And.intro (fun c => absurd h4.2 (Int32.not_le.mpr c)) (fun _ => ?_)
  refine ⟨6, _, _, by decide, c_M_cntF l y b hp x h, ?_⟩
  refine And.intro (fun c => absurd rfl c) (fun _ => ?_)
  exact And.intro trivial ⟨rfl, rfl⟩
set_option maxRecDepth 100000 in
set_option maxHeartbeats 1000000 in
theorem c_M_sure (w u v : Nat → Nat) (hp : MT y t n) (p : Nat) (hpn : p ≤ n) (x : Int32) (hx : isL x) (h : cntM t n y (nI p)) (hm : MPr (yP t n y) (chr t n) n w u v) : XMet l 7 q_M_sure [.ref 0, .int (nI p), .int x] (vM y b) (some (.int (if yE t n w u v y 9 p = 0 then 0 else if hsP (yE t n w u v y 10 p) x then 2 else 1))) (vM (yE t n w u v y) b) := by
  have hn := hp.2.1
  have h4 := isL_4.mp hx
  have hs := c_M_studyP l y b w u v hp hm
  refine xm_intro (by decide +kernel) (Nat.le_of_ble_eq_true rfl) ?_
  refine xw_go xcls ok_M_sure 40 [] ?_
  refine And.intro (fun c => absurd h4.1 (Int32.not_le.mpr c)) (fun _ => ?_)
  refine And.intro (fun c => absurd h4.2 (Int32.not_le.mpr c)) (fun _ => ?_)
  refine ⟨6, _, _, by decide, c_M_cntY l y b hp p h hpn, ?_⟩
  refine And.intro (fun _ => ?_) (fun c => absurd c (by decide))
  refine ⟨6, _, _, by decide, hs, ?_⟩
  generalize yE t n w u v y = z
  refine And.intro (in_nI (by omega) (by omega)) ?_
  rw [cl_nI (by omega)]
  refine And.intro (fun h1 => ?_) (fun h1 => ?_)
  · have h1 : ¬ z 9 p = 0 := h1
    refine And.intro (in_nI (by omega) (by omega)) ?_
    rw [cl_nI (by omega)]
    refine ⟨0, _, _, by decide, c_M_has l _ (z 10 p) x, ?_⟩
    by_cases h2 : hsP (z 10 p) x
    · rw [show bI (hsP (z 10 p) x) = 1 by rw [bI, if_pos h2]]
      refine And.intro (fun c => absurd c (by decide)) (fun _ => ?_)
      exact And.intro trivial ⟨by rw [if_neg h1, if_pos h2], rfl⟩
    · rw [show bI (hsP (z 10 p) x) = 0 by rw [bI, if_neg h2]]
      refine And.intro (fun _ => ?_) (fun c => absurd rfl c)
      exact And.intro trivial ⟨by rw [if_neg h1, if_neg h2], rfl⟩
  · have h1 : z 9 p = 0 := h1
    exact And.intro trivial ⟨by rw [if_pos h1], rfl⟩
set_option maxRecDepth 100000 in
theorem c_M_linkedO (x v : Int32) (h : ¬ isL v) : XMet l 7 q_M_linked [.ref 0, .int x, .int v] (vM y b) (some (.int 0)) (vM y b) := by
  refine xm_intro (by decide +kernel) (Nat.le_of_ble_eq_true rfl) ?_
  refine xw_go xcls ok_M_linked 40 [] ?_
  refine And.intro (fun _ => ?_) (fun h1 => ?_)
  · exact And.intro (Or.inl rfl) ⟨rfl, rfl⟩
  · refine And.intro (fun _ => ?_) (fun h2 => ?_)
    · exact And.intro (Or.inl rfl) ⟨rfl, rfl⟩
    · exact absurd (isL_4.mpr ⟨Int32.not_lt.mp h1, Int32.not_lt.mp h2⟩) h
set_option maxRecDepth 100000 in
theorem c_M_linkedN (hp : MT y t n) (x v : Int32) (hv : isL v) (h : ¬ cntM t n y x) : XMet l 7 q_M_linked [.ref 0, .int x, .int v] (vM y b) (some (.int 0)) (vM (yF t n y x) b) := by
  have h4 := isL_4.mp hv
  refine xm_intro (by decide +kernel) (Nat.le_of_ble_eq_true rfl) ?_
  refine xw_go xcls ok_M_linked 40 [] ?_
  refine And.intro (fun c => absurd h4.1 (Int32.not_le.mpr c)) (fun _ => ?_)
  refine And.intro (fun c => absurd h4.2 (Int32.not_le.mpr c)) (fun _ => ?_)
  refine ⟨6, _, _, by decide, c_M_cntF l y b hp x h, ?_⟩
  refine And.intro (fun c => absurd rfl c) (fun _ => ?_)
  exact And.intro (Or.inl rfl) ⟨rfl, rfl⟩
set_option maxRecDepth 100000 in
set_option maxHeartbeats 1000000 in
theorem c_M_linked (w u v : Nat → Nat) (hp : MT y t n) (p : Nat) (hpn : p ≤ n) (x : Int32) (hx : isL x) (h : cntM t n y (nI p)) (hm : MPr (yP t n y) (chr t n) n w u v) : XMet l 7 q_M_linked [.ref 0, .int (nI p), .int x] (vM y b) (some (.int (if yE t n w u v y 9 p = 0 then 0 else if hsP (yE t n w u v y 11 p) x then 1 else 0))) (vM (yE t n w u v y) b) := by
  have hn := hp.2.1
  have h4 := isL_4.mp hx
  have hs := c_M_studyP l y b w u v hp hm
  refine xm_intro (by decide +kernel) (Nat.le_of_ble_eq_true rfl) ?_
  refine xw_go xcls ok_M_linked 40 [] ?_
  refine And.intro (fun c => absurd h4.1 (Int32.not_le.mpr c)) (fun _ => ?_)
  refine And.intro (fun c => absurd h4.2 (Int32.not_le.mpr c)) (fun _ => ?_)
  refine ⟨6, _, _, by decide, c_M_cntY l y b hp p h hpn, ?_⟩
  refine And.intro (fun _ => ?_) (fun c => absurd c (by decide))
  refine ⟨6, _, _, by decide, hs, ?_⟩
  generalize yE t n w u v y = z
  refine And.intro (in_nI (by omega) (by omega)) ?_
  rw [cl_nI (by omega)]
  refine And.intro (fun h1 => ?_) (fun h1 => ?_)
  · have h1 : z 9 p = 0 := h1
    exact And.intro (Or.inl rfl) ⟨by rw [if_pos h1], rfl⟩
  · have h1 : ¬ z 9 p = 0 := h1
    refine And.intro (in_nI (by omega) (by omega)) ?_
    rw [cl_nI (by omega)]
    refine ⟨0, _, _, by decide, c_M_has l _ (z 11 p) x, ?_⟩
    by_cases h2 : hsP (z 11 p) x
    · rw [show bI (hsP (z 11 p) x) = 1 by rw [bI, if_pos h2]]
      refine And.intro (fun c => absurd c (by decide)) (fun _ => ?_)
      exact And.intro (Or.inr rfl) ⟨by rw [if_neg h1, if_pos h2], rfl⟩
    · rw [show bI (hsP (z 11 p) x) = 0 by rw [bI, if_neg h2]]
      refine And.intro (fun _ => ?_) (fun c => absurd rfl c)
      exact And.intro (Or.inl rfl) ⟨by rw [if_neg h1, if_neg h2], rfl⟩
set_option maxRecDepth 100000 in
theorem c_M_wipe : XMet l 7 q_M_wipe [.ref 0] (vM y b) none (vM (us y 0 1 0) b) := by
  refine xm_intro (by decide +kernel) (Nat.le_of_ble_eq_true rfl) ?_
  refine xw_go xcls ok_M_wipe 40 [] ?_
  exact And.intro trivial (And.intro rfl ⟨rfl, rfl⟩)
set_option maxRecDepth 100000 in
theorem c_M_length : XMet l 7 q_M_length [.ref 0] (vM y b) (some (.int (y 0 1))) (vM y b) := by
  refine xm_intro (by decide +kernel) (Nat.le_of_ble_eq_true rfl) ?_
  refine xw_go xcls ok_M_length 40 [] ?_
  exact And.intro trivial ⟨rfl, rfl⟩
set_option maxRecDepth 100000 in
theorem c_M_declare (v on : Int32) (hv : isL v) : XMet l 7 q_M_declare [.ref 0, .int v, .int on] (vM y b) (some (.int 1)) (vM (us y 2 v.toNatClampNeg (vp_nar .boolean on)) b) := by
  have h4 := isL_4.mp hv
  obtain ⟨j, hj, rfl⟩ := isL_n hv
  refine xm_intro (by decide +kernel) (Nat.le_of_ble_eq_true rfl) ?_
  refine xw_go xcls ok_M_declare 40 [] ?_
  refine And.intro (fun c => absurd h4.1 (Int32.not_le.mpr c)) (fun _ => ?_)
  refine And.intro (fun _ => ?_) (fun c => absurd h4.2 c)
  refine And.intro (in_nI (by omega) (by omega)) ?_
  exact And.intro (Or.inr rfl) ⟨rfl, rfl⟩
set_option maxRecDepth 100000 in
theorem c_M_declareN (v on : Int32) (hv : ¬ isL v) : XMet l 7 q_M_declare [.ref 0, .int v, .int on] (vM y b) (some (.int 0)) (vM y b) := by
  refine xm_intro (by decide +kernel) (Nat.le_of_ble_eq_true rfl) ?_
  refine xw_go xcls ok_M_declare 40 [] ?_
  refine And.intro (fun _ => ?_) (fun h1 => ?_)
  · exact And.intro (Or.inl rfl) ⟨rfl, rfl⟩
  · refine And.intro (fun h2 => absurd (isL_4.mpr ⟨Int32.not_lt.mp h1, h2⟩) hv) (fun _ => ?_)
    exact And.intro (Or.inl rfl) ⟨rfl, rfl⟩
end
/-- a byte of a long, by the reference -/
def mB (x : Int64) (k : Nat) : Int32 := (x >>> (((8 : Int32) * nI k).toInt64 &&& 63)).toInt32 &&& 255
def mCt (x : Int64) : Nat → Nat → Nat → Option Nat
  | 0, _, a => some a
  | m + 1, k, a => if ¬ mB x k = 0 ∧ (mB x k < 33 ∨ 126 < mB x k) then none else mCt x m (k + 1) (a + if mB x k = 0 then 0 else 1)
def mAp (x : Int64) : Nat → (Nat → Int32) → Nat → (Nat → Int32) × Nat
  | 0, t, n => (t, n)
  | m + 1, t, n => if mB x m = 0 then mAp x m t n else mAp x m (upd t n (mB x m)) (n + 1)
def mN (x : Int64) : Nat → Nat
  | 0 => 0
  | m + 1 => (if mB x m = 0 then 0 else 1) + mN x m
theorem mul8 (k : Nat) : (8 : Int32) * nI k = nI (8 * k) := pk_mul 8 k
section
variable (l : Launch) (y : Sg) (b : Int64) {t : Nat → Int32} {n : Nat}
set_option maxRecDepth 100000 in
set_option maxHeartbeats 1000000 in
theorem lp_M_type1 (x : Int64) : ∀ (m k a : Nat), k + m = 8 → (mCt x m k a = none → XW l 7 q_M_type (fun u w => u = some (.int 0) ∧ w = vM y b) 5 [(0, .ref 0), (1, .long x), (3, .int (nI a)), (4, .int (nI k))] [] (vM y b)) ∧
    ∀ (Rt : Option Value → List va_E → Prop) (c : Nat), mCt x m k a = some c → XW l 7 q_M_type Rt 66 [(0, .ref 0), (1, .long x), (3, .int (nI c))] [] (vM y b) → XW l 7 q_M_type Rt 5 [(0, .ref 0), (1, .long x), (3, .int (nI a)), (4, .int (nI k))] [] (vM y b)
  | 0, k, a, hk => by
    have hk : k = 8 := hk
    subst hk
    refine ⟨fun h => absurd h (by simp [mCt]), fun Rt c h K => ?_⟩
    have h : a = c := Option.some.inj h
    subst h
    refine xw_go xcls ok_M_type 60 [(66, [0, 1, 3])] ?_
    refine And.intro (fun _ => K) (fun c => absurd (by decide) c)
  | m + 1, k, a, hk => by
    obtain ⟨ih1, ih2⟩ := lp_M_type1 x m (k + 1) (a + if mB x k = 0 then 0 else 1) (by omega)
    have j47 : ∀ (Rt : Option Value → List va_E → Prop), XW l 7 q_M_type Rt 5 [(0, .ref 0), (1, .long x), (3, .int (nI (a + if mB x k = 0 then 0 else 1))), (4, .int (nI (k + 1)))] [] (vM y b) → XW l 7 q_M_type Rt 47 [(0, .ref 0), (1, .long x), (3, .int (nI a)), (4, .int (nI k)), (5, .int (mB x k))] [] (vM y b) := by
      intro Rt K
      rw [← nI_p1 k] at K
      refine xw_go xcls ok_M_type 60 [(5, [0, 1, 3, 4])] ?_
      refine And.intro (fun h => ?_) (fun h => ?_)
      · rw [if_neg h, ← nI_p1 a] at K
        exact K
      · rw [if_pos h, show nI (a + 0) = nI a + 0 from (nI_add a 0).symm] at K
        exact K
    refine ⟨fun h => ?_, fun Rt c h K => ?_⟩
    · refine xw_go xcls ok_M_type 60 [(47, [0, 1, 3, 4, 5])] ?_
      refine And.intro (fun h2 => absurd h2 (by rw [show (8 : Int32) = nI 8 from rfl, nI_le' (by omega) (by omega)]; omega)) (fun _ => ?_)
      by_cases hb : ¬ mB x k = 0 ∧ (mB x k < 33 ∨ 126 < mB x k)
      · refine And.intro (fun c => absurd c hb.1) (fun _ => ?_)
        refine And.intro (fun _ => ?_) (fun h3 => ?_)
        · exact And.intro (Or.inl rfl) ⟨rfl, rfl⟩
        · refine And.intro (fun c => absurd (hb.2.resolve_left h3) (Int32.not_lt.mpr c)) (fun _ => ?_)
          exact And.intro (Or.inl rfl) ⟨rfl, rfl⟩
      · have K := j47 _ (ih1 (by simp only [mCt, if_neg hb] at h; exact h))
        refine And.intro (fun _ => K) (fun c => ?_)
        refine And.intro (fun c2 => absurd ⟨c, Or.inl c2⟩ hb) (fun _ => ?_)
        refine And.intro (fun _ => K) (fun c2 => absurd ⟨c, Or.inr (Int32.not_le.mp c2)⟩ hb)
    · refine xw_go xcls ok_M_type 60 [(47, [0, 1, 3, 4, 5])] ?_
      refine And.intro (fun h2 => absurd h2 (by rw [show (8 : Int32) = nI 8 from rfl, nI_le' (by omega) (by omega)]; omega)) (fun _ => ?_)
      by_cases hb : ¬ mB x k = 0 ∧ (mB x k < 33 ∨ 126 < mB x k)
      · simp only [mCt, if_pos hb] at h; cases h
      · have K := j47 _ (ih2 Rt c (by simp only [mCt, if_neg hb] at h; exact h) K)
        refine And.intro (fun _ => K) (fun c => ?_)
        refine And.intro (fun c2 => absurd ⟨c, Or.inl c2⟩ hb) (fun _ => ?_)
        refine And.intro (fun _ => K) (fun c2 => absurd ⟨c, Or.inr (Int32.not_le.mp c2)⟩ hb)
theorem mCt_eq {x : Int64} : ∀ (m k a c : Nat), mCt x m k a = some c → c ≤ a + m
  | 0, k, a, c, h => by have h : a = c := Option.some.inj h; omega
  | m + 1, k, a, c, h => by
    simp only [mCt] at h
    split at h
    · cases h
    · have := mCt_eq m _ _ c h
      split at this <;> omega
set_option maxRecDepth 100000 in
set_option maxHeartbeats 1000000 in
theorem lp_M_type2 (x : Int64) : ∀ (m : Nat) (t : Nat → Int32) (n : Nat), m ≤ 8 → n + mN x m ≤ 64 → XW l 7 q_M_type (fun u w => u = some (.int 1) ∧ w = vM (sT y (mAp x m t n)) b) 83 [(0, .ref 0), (1, .long x), (4, .int (nI m - 1))] [] (vM (sT y (t, n)) b)
  | 0, t, n, hm, hn => by
    refine xw_go xcls ok_M_type 60 [] ?_
    refine And.intro (fun h => ?_) (fun h => absurd (by decide) h)
    exact And.intro (Or.inr rfl) ⟨rfl, rfl⟩
  | m + 1, t, n, hm, hn => by
    rw [nI_p]
    simp only [mN] at hn
    have m1 : nI m + (-1) = nI m - 1 := (Int32.sub_eq_add_neg (nI m) 1).symm
    refine xw_go xcls ok_M_type 60 [(83, [0, 1, 4])] ?_
    refine And.intro (fun h => absurd h (nI_n0 (by omega))) (fun h => ?_)
    refine And.intro (fun q => ?_) (fun q => ?_)
    · have q : mB x m = 0 := q
      have e : mAp x (m + 1) t n = mAp x m t n := by simp [mAp, q]
      rw [e]
      have ih := lp_M_type2 x m t n (by omega) (by rw [if_pos q] at hn; omega)
      rw [← m1] at ih
      exact ih
    · have q : ¬ mB x m = 0 := q
      rw [if_neg q] at hn
      have e : mAp x (m + 1) t n = mAp x m (upd t n (mB x m)) (n + 1) := by simp [mAp, q]
      rw [e]
      have e01 : sT y (t, n) 0 1 = nI n := rfl
      refine And.intro (by rw [e01]; exact in_nI (by omega) (by omega)) ?_
      rw [e01, cl_nI (by omega)]
      refine And.intro trivial ?_
      rw [e01, nI_p1]
      have ih := lp_M_type2 x m (upd t n (mB x m)) (n + 1) (by omega) (by omega)
      rw [← m1] at ih
      exact ih
set_option maxRecDepth 100000 in
set_option maxHeartbeats 1000000 in
theorem c_M_type (x : Int64) (hp : MT y t n) (a : Nat) (ha : mCt x 8 0 0 = some a) (hna : n + a ≤ 64) (hnn : n + mN x 8 ≤ 64) : XMet l 7 q_M_type [.ref 0, .long x] (vM y b) (some (.int 1)) (vM (sT y (mAp x 8 t n)) b) := by
  obtain ⟨hz, hn, rfl⟩ := hp
  refine xm_intro (by decide +kernel) (Nat.le_of_ble_eq_true rfl) ?_
  refine xw_go xcls ok_M_type 60 [(5, [0, 1, 3, 4])] ?_
  refine (lp_M_type1 l y b x 8 0 0 (by omega)).2 _ a ha ?_
  have h8 := mCt_eq _ _ _ _ ha
  refine xw_go xcls ok_M_type 60 [(83, [0, 1, 4])] ?_
  refine And.intro (fun q2 => ?_) (fun q2 => ?_)
  · have ih := lp_M_type2 l y b x 8 (y 1) n (by omega) hnn
    have e : vM (sT y (y 1, n)) b = vM y b := by
      show vM (us (uc y 1 (y 1)) 0 1 (nI n)) b = _
      rw [← hz]; rfl
    rw [e] at ih
    exact ih
  · have q2 : ¬ y 0 1 + nI a ≤ 64 := q2
    rw [hz, nI_add, show (64 : Int32) = nI 64 from rfl, nI_le' (by omega) (by omega)] at q2
    omega
set_option maxRecDepth 100000 in
set_option maxHeartbeats 1000000 in
theorem c_M_typeN (x : Int64) (hp : MT y t n) (h : ∀ a, mCt x 8 0 0 = some a → 64 < n + a) : XMet l 7 q_M_type [.ref 0, .long x] (vM y b) (some (.int 0)) (vM y b) := by
  obtain ⟨hz, hn, rfl⟩ := hp
  refine xm_intro (by decide +kernel) (Nat.le_of_ble_eq_true rfl) ?_
  refine xw_go xcls ok_M_type 60 [(5, [0, 1, 3, 4])] ?_
  cases ha : mCt x 8 0 0 with
  | none => exact (lp_M_type1 l y b x 8 0 0 (by omega)).1 ha
  | some a =>
    refine (lp_M_type1 l y b x 8 0 0 (by omega)).2 _ a ha ?_
    have h8 := mCt_eq _ _ _ _ ha
    have hh := h a ha
    refine xw_go xcls ok_M_type 60 [] ?_
    refine And.intro (fun q2 => ?_) (fun q2 => ?_)
    · have q2 : y 0 1 + nI a ≤ 64 := q2
      rw [hz, nI_add, show (64 : Int32) = nI 64 from rfl, nI_le' (by omega) (by omega)] at q2
      omega
    · exact And.intro (Or.inl rfl) ⟨rfl, rfl⟩
end
