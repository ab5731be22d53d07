/-! The reference: run, held, field, objects, steps -/
def mRm (y : Sg) (c : Nat → Int32) (w u v : Nat → Nat) : Nat → Nat → Nat → MSt → Int32 × MSt × Nat
  | 0, k, p, m => (4 * nI p + 3, m, k)
  | f + 1, k, p, m => if (mVm y c w u v p m).2.2 = -1 then mRm y c w u v f (k + 1) (mVm y c w u v p m).1 (mVm y c w u v p m).2.1 else (4 * nI p - 1 - (-1 - (mVm y c w u v p m).2.2), (mVm y c w u v p m).2.1, k)
/-- a step stays among the places, and keeps the bounds -/
def MNx (y : Sg) (c : Nat → Int32) (n : Nat) (w u v : Nat → Nat) : Prop := ∀ p m, MInv m → p ≤ n → 0 < y 3 p → MInv (mVm y c w u v p m).2.1 ∧ ((mVm y c w u v p m).2.2 = -1 → (mVm y c w u v p m).1 ≤ n ∧ 0 < y 3 (mVm y c w u v p m).1) ∧ ((mVm y c w u v p m).2.2 = -1 ∨ (mVm y c w u v p m).2.2 = 0 ∨ (mVm y c w u v p m).2.2 = 1 ∨ (mVm y c w u v p m).2.2 = 2)
/-- what the names hold as a run of the reference begins -/
def mR0 (so : Nat → Int32) (st : Int32) (k : Nat) (f : Nat → Option Nat) : Nat → Option Nat := fun v => if v < k then (if ¬ so v = 0 ∨ (st >>> (nI v &&& 31)) &&& 1 = 1 then some 0 else none) else f v
theorem mR0_s {so : Nat → Int32} {st : Int32} {k : Nat} {f : Nat → Option Nat} : fu (mR0 so st k f) k (if ¬ so k = 0 ∨ (st >>> (nI k &&& 31)) &&& 1 = 1 then some 0 else none) = mR0 so st (k + 1) f := by
  funext j
  unfold fu mR0
  by_cases h : j = k
  · subst h; simp
  · have : j < k + 1 ↔ j < k := by omega
    simp [h, this]
def mPr (so : Nat → Int32) (st : Int32) (b : Int64) (m : MSt) : MSt := (mR0 so st 5 m.1, fu m.2.1 0 0, fu m.2.2.1 0 none, 1, b)
def RepM (y : Sg) (m : MSt) (vs : Int32) : Prop := y 0 21 = nI m.2.2.2.1 ∧ y 0 24 = vs ∧ y 13 = (fun v => oI (m.1 v)) ∧ y 14 = (fun o => nI (m.2.1 o)) ∧ y 15 = (fun o => oI (m.2.2.1 o))
theorem RepM.eq {y : Sg} {m : MSt} {vs : Int32} (h : RepM y m vs) : vM y m.2.2.2.2 = vR y m vs := vR_i (fun _ _ _ => rfl) (fun _ _ _ => rfl) h.1 h.2.1 h.2.2.1 h.2.2.2.1 h.2.2.2.2
section
variable (l : Launch) (y : Sg) {t : Nat → Int32} {n : Nat}
set_option maxRecDepth 100000 in
set_option maxHeartbeats 1000000 in
theorem lp_M_run (w u v : Nat → Nat) (hm : MPr y (chr t n) n w u v) (hs : ∀ p, p ≤ n → y 3 p = 2 → vp_in (chr t n p - 97) 5) (hp : MT y t n) (hN : MNx y (chr t n) n w u v) : ∀ (f k p : Nat) (m : MSt), k + f = 200 → p ≤ n → 0 < y 3 p → MInv m →
    XW l 7 q_M_run (fun a x => a = some (.int (mRm y (chr t n) w u v f k p m).1) ∧ x = vR y (mRm y (chr t n) w u v f k p m).2.1 (nI (mRm y (chr t n) w u v f k p m).2.2)) 93 [(0, .ref 0), (5, .int (nI p)), (6, .int (nI k))] [] (vR y m (nI k))
  | 0, k, p, m, hf, hpn, hr, hi => by
    have hf : k = 200 := hf
    subst hf
    refine xw_go xcls ok_M_run 40 [] ?_
    refine And.intro (fun h => ?_) (fun h => absurd (by decide) h)
    exact And.intro trivial ⟨rfl, rfl⟩
  | f + 1, k, p, m, hf, hpn, hr, hi => by
    have hn := hp.2.1
    obtain ⟨g1, g2, g3⟩ := hN p m hi hpn hr
    have cv := c_M_visit l y (nI k) w u v hm hs hp m hi p hpn hr
    have ihf := lp_M_run w u v hm hs hp hN f (k + 1)
    simp only [mRm]
    generalize mVm y (chr t n) w u v p m = q at g1 g2 g3 cv ⊢
    obtain ⟨p2, m2, e⟩ := q
    refine xw_go xcls ok_M_run 40 [(93, [0, 5, 6])] ?_
    refine And.intro (fun h => absurd h (by rw [show (200 : Int32) = nI 200 from rfl, nI_le' (by omega) (by omega)]; omega)) (fun h => ?_)
    refine ⟨5, _, _, by decide, cv, ?_⟩
    by_cases he : e = -1
    · subst he
      obtain ⟨k1, k2⟩ := g2 rfl
      have k1 : p2 ≤ n := k1
      have ev : vI (p2, m2, -1) = nI p2 := by simp [vI]
      rw [ev]
      refine And.intro (fun _ => ?_) (fun c => absurd (nI_g0 (by omega)) c)
      refine And.intro trivial ?_
      have ih := ihf p2 m2 (by omega) k1 k2 g1
      simp only [if_true]
      rw [← nI_p1 k] at ih
      exact ih
    · have ev : vI (p2, m2, e) = -1 - e := vI_e he
      have g3 : e = 0 ∨ e = 1 ∨ e = 2 := g3.resolve_left he
      rw [ev]
      have hlt : ¬ (0 : Int32) ≤ -1 - e := by rcases g3 with rfl | rfl | rfl <;> decide
      refine And.intro (fun c => absurd c hlt) (fun _ => ?_)
      simp only [if_neg he]
      exact And.intro trivial ⟨rfl, rfl⟩
set_option maxRecDepth 100000 in
set_option maxHeartbeats 1000000 in
theorem lp_M_loc (m : MSt) (vs : Int32) (st : Int32) (b : Int64) (Rt : Option Value → List va_E → Prop) (K : XW l 7 q_M_run Rt 73 [(0, .ref 0), (2, .long b)] [] (vR y (mR0 (y 2) st 5 m.1, (mSt m).2) vs)) : ∀ (j k : Nat), k + j = 5 → XW l 7 q_M_run Rt 28 [(0, .ref 0), (1, .int st), (2, .long b), (4, .int (nI 0)), (5, .int (nI k))] [] (vR y (mR0 (y 2) st k m.1, (mSt m).2) vs)
  | 0, k, hk => by
    have hk : k = 5 := hk
    subst hk
    refine xw_go xcls ok_M_run 40 [(73, [0, 2])] ?_
    refine And.intro (fun h => K) (fun h => absurd (by decide) h)
  | j + 1, k, hk => by
    have ih := lp_M_loc m vs st b Rt K j (k + 1) (by omega)
    rw [← nI_p1] at ih
    have e0 : ∀ x : Option Nat, x = (if ¬ y 2 k = 0 ∨ (st >>> (nI k &&& 31)) &&& 1 = 1 then some 0 else none) → mLoc k x (mR0 (y 2) st k m.1, (mSt m).2) = (mR0 (y 2) st (k + 1) m.1, (mSt m).2) := by
      intro x hx
      show (fu (mR0 (y 2) st k m.1) k x, (mSt m).2) = _
      rw [hx, mR0_s]
    have j66 : ∀ (x : Option Nat) (z : Int32), z = oI x → x = (if ¬ y 2 k = 0 ∨ (st >>> (nI k &&& 31)) &&& 1 = 1 then some 0 else none) → XW l 7 q_M_run Rt 66 [(0, .ref 0), (1, .int st), (2, .long b), (4, .int (nI 0)), (5, .int (nI k))] [.int z, .int (nI k), .ref 13] (vR y (mR0 (y 2) st k m.1, (mSt m).2) vs) := by
      intro x z hz hx
      subst hz
      refine xw_go xcls ok_M_run 40 [(28, [0, 1, 2, 4, 5])] ?_
      refine And.intro (in_nI (by omega) (by omega)) ?_
      rw [cl_nI (by omega)]
      rw [← e0 x hx, ← w_rLoc y vs] at ih
      exact ih
    have j60 : (¬ y 2 k = 0 ∨ (st >>> (nI k &&& 31)) &&& 1 = 1) → XW l 7 q_M_run Rt 60 [(0, .ref 0), (1, .int st), (2, .long b), (4, .int (nI 0)), (5, .int (nI k))] [.int (nI k), .ref 13] (vR y (mR0 (y 2) st k m.1, (mSt m).2) vs) := by
      intro h
      refine xw_go xcls ok_M_run 40 [(66, [0, 1, 2, 4, 5])] ?_
      exact j66 (some 0) (nI 0) rfl (by rw [if_pos h])
    refine xw_go xcls ok_M_run 40 [(66, [0, 1, 2, 4, 5]), (60, [0, 1, 2, 4, 5])] ?_
    refine And.intro (fun h => absurd h (by rw [show (5 : Int32) = nI 5 from rfl, nI_le' (by omega) (by omega)]; omega)) (fun h => ?_)
    refine And.intro (in_nI (by omega) (by omega)) ?_
    rw [cl_nI (by omega)]
    refine And.intro (fun h2 => j60 (Or.inl h2)) (fun h2 => ?_)
    have h2 : y 2 k = 0 := h2
    refine And.intro (fun h3 => ?_) (fun h3 => j60 (Or.inr h3))
    exact j66 none (-1) rfl (by rw [if_neg (fun c => c.elim (fun c => c h2) h3)])
theorem RepM.yP {m : MSt} {vs : Int32} (h : RepM y m vs) : RepM (yP t n y) m vs := by
  obtain ⟨h1, h2, h3, h4, h5⟩ := h
  refine ⟨(yP_0 (by decide) (by decide)).trans h1, (yP_0 (by decide) (by decide)).trans h2, (yP_n (by decide) (by decide) (by decide) (by decide) (by decide) (by decide) (by decide)).trans h3, (yP_n (by decide) (by decide) (by decide) (by decide) (by decide) (by decide) (by decide)).trans h4, (yP_n (by decide) (by decide) (by decide) (by decide) (by decide) (by decide) (by decide)).trans h5⟩
/-- the reference behind the beginning of a run -/
def yR (t : Nat → Int32) (n : Nat) (y : Sg) : Sg := us (yP t n y) 0 19 1
set_option maxRecDepth 100000 in
set_option maxHeartbeats 2000000 in
theorem c_M_run (w u v : Nat → Nat) (hp : MT y t n) (hv : mOk t n y) (m : MSt) (vs : Int32) (hR : RepM y m vs) (hi : MInv (mPr (yR t n y 2) 0 0 m) → True) (st : Int32) (b : Int64)
    (hm : MPr (yR t n y) (chr t n) n w u v) (hs : ∀ p, p ≤ n → yR t n y 3 p = 2 → vp_in (chr t n p - 97) 5) (hN : MNx (yR t n y) (chr t n) n w u v) (h0 : 0 < yR t n y 3 0) (hm0 : MInv (mPr (yR t n y 2) st b m)) :
    XMet l 7 q_M_run [.ref 0, .int st, .long b] (vR y m vs) (some (.int (mRm (yR t n y) (chr t n) w u v 200 0 0 (mPr (yR t n y 2) st b m)).1)) (vR (yR t n y) (mRm (yR t n y) (chr t n) w u v 200 0 0 (mPr (yR t n y 2) st b m)).2.1 (nI (mRm (yR t n y) (chr t n) w u v 200 0 0 (mPr (yR t n y 2) st b m)).2.2)) := by
  have hn := hp.2.1
  have hpR : MT (yR t n y) t n := MT_yP hp
  have cp := c_M_progY l y m.2.2.2.2 hp hv
  rw [hR.eq, (hR.yP y (t := t) (n := n)).eq] at cp
  have lr := lp_M_run l (yR t n y) w u v hm hs hpR hN 200 0 0 (mPr (yR t n y 2) st b m) (by omega) (by omega) h0 hm0
  have hgo : Go (yR t n y 3) (yR t n y 4) (yR t n y 7) n 65 0 0 := ⟨by omega, Or.inl ⟨h0, rfl⟩⟩
  generalize hz : yR t n y = z at lr hgo hpR ⊢
  have hzy : vR (yP t n y) m vs = vR (yP t n y) m vs := rfl
  generalize mRm z (chr t n) w u v 200 0 0 (mPr (z 2) st b m) = fin at lr ⊢
  refine xm_intro (by decide +kernel) (Nat.le_of_ble_eq_true rfl) ?_
  refine xw_go xcls ok_M_run 60 [(28, [0, 1, 2, 4, 5])] ?_
  refine ⟨5, _, _, by decide, cp, ?_⟩
  refine And.intro (fun _ => ?_) (fun c => absurd c (by decide))
  refine And.intro (Or.inr rfl) ?_
  refine And.intro trivial ?_
  have cc := c_M_create l z vs (m.1, m.2.1, m.2.2.1, 0, m.2.2.2.2) (by show 0 ≤ 8; omega)
  subst hz
  refine ⟨0, _, _, by decide, cc, ?_⟩
  generalize yR t n y = z at lr hgo hpR ⊢
  have ll := lp_M_loc l z m vs st b (fun a x => a = some (.int fin.1) ∧ x = vR z fin.2.1 (nI fin.2.2)) ?_ 5 0 (by omega)
  · rw [show mR0 (z 2) st 0 m.1 = m.1 from by funext v; simp [mR0]] at ll
    exact ll
  · refine xw_go xcls ok_M_run 60 [(93, [0, 5, 6])] ?_
    refine And.intro trivial ?_
    refine And.intro trivial ?_
    refine ⟨0, _, _, by decide, c_M_goes l (sR z (mPr (z 2) st b m) (nI 0)) b hn 0 0 hgo, ?_⟩
    exact lr
set_option maxRecDepth 100000 in
set_option maxHeartbeats 1000000 in
theorem c_M_runN (hp : MT y t n) (hv : ¬ mOk t n y) (b0 : Int64) (st : Int32) (b : Int64) : XMet l 7 q_M_run [.ref 0, .int st, .long b] (vM y b0) (some (.int (-1))) (vM (mPar t n y).2.1 b0) := by
  refine xm_intro (by decide +kernel) (Nat.le_of_ble_eq_true rfl) ?_
  refine xw_go xcls ok_M_run 60 [] ?_
  refine ⟨5, _, _, by decide, c_M_progN l y b0 hp hv, ?_⟩
  refine And.intro (fun c => absurd rfl c) (fun _ => ?_)
  exact And.intro trivial ⟨rfl, rfl⟩
variable (b : Int64)
set_option maxRecDepth 100000 in
theorem c_M_held (v : Int32) (hv : isL v) : XMet l 7 q_M_held [.ref 0, .int v] (vM y b) (some (.int (if y 0 19 = 0 then -1 else y 13 v.toNatClampNeg))) (vM y b) := by
  obtain ⟨j, hj, rfl⟩ := isL_n hv
  refine xm_intro (by decide +kernel) (Nat.le_of_ble_eq_true rfl) ?_
  refine xw_go xcls ok_M_held 40 [] ?_
  refine And.intro (fun h => ?_) (fun h => ?_)
  · have h : y 0 19 = 0 := h
    exact And.intro trivial ⟨by rw [if_pos h], rfl⟩
  · have h : ¬ y 0 19 = 0 := h
    refine And.intro (fun c => absurd c (nI_n0 (by omega))) (fun _ => ?_)
    refine And.intro (fun c => absurd hv.2 (Int32.not_lt.mpr c)) (fun _ => ?_)
    refine And.intro (in_nI (by omega) (by omega)) ?_
    exact And.intro trivial ⟨by rw [if_neg h], rfl⟩
set_option maxRecDepth 100000 in
theorem c_M_heldN (v : Int32) (hv : ¬ isL v) : XMet l 7 q_M_held [.ref 0, .int v] (vM y b) (some (.int (-1))) (vM y b) := by
  refine xm_intro (by decide +kernel) (Nat.le_of_ble_eq_true rfl) ?_
  refine xw_go xcls ok_M_held 40 [] ?_
  refine And.intro (fun h => ?_) (fun h => ?_)
  · exact And.intro trivial ⟨rfl, rfl⟩
  · refine And.intro (fun _ => ?_) (fun h1 => ?_)
    · exact And.intro trivial ⟨rfl, rfl⟩
    · refine And.intro (fun _ => ?_) (fun h2 => absurd ⟨Int32.not_lt.mp h1, Int32.not_le.mp h2⟩ hv)
      exact And.intro trivial ⟨rfl, rfl⟩
set_option maxRecDepth 100000 in
set_option maxHeartbeats 1000000 in
theorem c_M_field (k : Nat) (hk : y 0 21 = nI k) (hk8 : k ≤ 8) (o f : Int32) (r : Int32) (hr : r = (if y 0 19 = 0 then -1 else if 0 ≤ o ∧ o < nI k then (if f = 0 then y 14 o.toNatClampNeg else if f = 1 then y 15 o.toNatClampNeg else -1) else -1)) : XMet l 7 q_M_field [.ref 0, .int o, .int f] (vM y b) (some (.int r)) (vM y b) := by
  refine xm_intro (by decide +kernel) (Nat.le_of_ble_eq_true rfl) ?_
  have j28 : r = -1 → XW l 7 q_M_field (fun u w => u = some (.int r) ∧ w = vM y b) 28 [] [] (vM y b) := by
    intro h
    rw [h]
    refine xw_go xcls ok_M_field 40 [] ?_
    exact And.intro trivial ⟨rfl, rfl⟩
  refine xw_go xcls ok_M_field 40 [(28, [])] ?_
  refine And.intro (fun h => j28 (by rw [hr, if_pos h])) (fun h => ?_)
  have h : ¬ y 0 19 = 0 := h
  rw [if_neg h] at hr
  refine And.intro (fun h1 => j28 (by rw [hr, if_neg (fun c => Int32.not_le.mpr h1 c.1)])) (fun h1 => ?_)
  refine And.intro (fun h2 => j28 (by rw [hr, if_neg (fun c => Int32.not_lt.mpr (show nI k ≤ o by rw [← hk]; exact h2) c.2)])) (fun h2 => ?_)
  have h2 : o < nI k := by rw [← hk]; exact Int32.not_le.mp h2
  rw [if_pos ⟨Int32.not_lt.mp h1, h2⟩] at hr
  obtain ⟨j, hj, e⟩ := nI_of h1
  rw [e, nI_ltI (by omega) (by omega)] at h2
  refine And.intro (fun h3 => j28 (by rw [hr, if_neg (fun c => by rw [c] at h3; exact absurd h3 (by decide)), if_neg (fun c => by rw [c] at h3; exact absurd h3 (by decide))])) (fun h3 => ?_)
  have h3 : ¬ f < 0 := h3
  refine And.intro (fun h4 => ?_) (fun h4 => ?_)
  · have h4 : f ≤ 1 := h4
    refine And.intro (fun h5 => ?_) (fun h5 => ?_)
    · have h5 : ¬ f = 0 := h5
      have h6 : f = 1 := by
        obtain ⟨i, hi, rfl⟩ := nI_of h3
        rw [show (1 : Int32) = nI 1 from rfl, nI_leI (by omega) (by omega)] at h4
        rw [show (0 : Int32) = nI 0 from rfl, nI_eq (by omega) (by omega)] at h5
        rw [show (1 : Int32) = nI 1 from rfl, nI_eq (by omega) (by omega)]
        omega
      refine And.intro (by rw [e]; exact in_nI (by omega) (by omega)) ?_
      exact And.intro trivial ⟨by rw [hr, if_neg h5, if_pos h6], rfl⟩
    · refine And.intro (by rw [e]; exact in_nI (by omega) (by omega)) ?_
      exact And.intro trivial ⟨by rw [hr, if_pos h5], rfl⟩
  · have h4 : ¬ f ≤ 1 := h4
    exact j28 (by rw [hr, if_neg (fun c => by rw [c] at h4; exact h4 (by decide)), if_neg (fun c => by rw [c] at h4; exact h4 (by decide))])
set_option maxRecDepth 100000 in
theorem c_M_objects : XMet l 7 q_M_objects [.ref 0] (vM y b) (some (.int (if y 0 19 = 0 then 0 else y 0 21))) (vM y b) := by
  refine xm_intro (by decide +kernel) (Nat.le_of_ble_eq_true rfl) ?_
  refine xw_go xcls ok_M_objects 40 [] ?_
  refine And.intro (fun h => ?_) (fun h => ?_)
  · have h : y 0 19 = 0 := h
    exact And.intro trivial ⟨by rw [if_pos h], rfl⟩
  · have h : ¬ y 0 19 = 0 := h
    exact And.intro trivial ⟨by rw [if_neg h], rfl⟩
set_option maxRecDepth 100000 in
theorem c_M_steps : XMet l 7 q_M_steps [.ref 0] (vM y b) (some (.int (if y 0 19 = 0 then -1 else y 0 24))) (vM y b) := by
  refine xm_intro (by decide +kernel) (Nat.le_of_ble_eq_true rfl) ?_
  refine xw_go xcls ok_M_steps 40 [] ?_
  refine And.intro (fun h => ?_) (fun h => ?_)
  · have h : y 0 19 = 0 := h
    exact And.intro trivial ⟨by rw [if_pos h], rfl⟩
  · have h : ¬ y 0 19 = 0 := h
    exact And.intro trivial ⟨by rw [if_neg h], rfl⟩
end
