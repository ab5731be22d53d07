/-! The reference: its public questions about the text -/
/-- behind a good reading of the text -/
def yP (t : Nat → Int32) (n : Nat) (y : Sg) : Sg := us (mPar t n y).2.1 3 n 8
def dOf (y : Sg) : DQ := ((y 9, y 10, y 11, y 12, y 0 18), (y 0 15, y 0 16, y 0 17))
theorem vM_d (y : Sg) (b : Int64) : vM (sD y (dOf y).1 (dOf y).2) b = vM y b := rfl
/-- a cell that reading leaves as it was -/
theorem mPart_n {c : Nat → Int32} {y : Sg} {i a : Nat} {k : List Nat} (h0 : a ≠ 0) (h3 : a ≠ 3) (h4 : a ≠ 4) (h5 : a ≠ 5) (h6 : a ≠ 6) (h7 : a ≠ 7) (h8 : a ≠ 8) : (mPart c y i k).2.1 a = y a := by
  unfold mPart; split
  · cases k with
    | nil => rfl
    | cons h k =>
      simp only [mClose]; split
      · simp [us, mCl1, h0, h4, h6, h7, h8]
      · simp [us, mCl1, h0, h4, h7]
  · split
    · simp [us, h0, h3, h7]
    · split
      · unfold mIf
        have hq : (mCd c i 64 (us (us (us y 0 8 (y 0 8 + 1)) 3 i (if c i = 63 then 3 else 4)) 6 i 0) (i + 1)).2 a = y a := by rw [mCd_n h3 h4]; simp [us, h0, h3, h6]
        generalize mCd c i 64 (us (us (us y 0 8 (y 0 8 + 1)) 3 i (if c i = 63 then 3 else 4)) 6 i 0) (i + 1) = q at hq ⊢
        split
        · simp [us, h5, hq]
        · split
          · simp [us, h5, hq]
          · simp [us, h0, h5, h8, hq]
      · unfold mWt; split
        · simp [us, h0]
        · split
          · simp [us, h0, h3, h7]
          · simp [us, h0, h3, h7]
theorem mPart_0 {c : Nat → Int32} {y : Sg} {i j : Nat} {k : List Nat} (h8 : j ≠ 8) (h9 : j ≠ 9) : (mPart c y i k).2.1 0 j = y 0 j := by
  unfold mPart; split
  · cases k with
    | nil => rfl
    | cons h k =>
      simp only [mClose]; split
      · simp [us, upd, mCl1, h9]
      · simp [us, upd, mCl1, h9]
  · split
    · simp [us, upd, h8]
    · split
      · unfold mIf
        have hq : (mCd c i 64 (us (us (us y 0 8 (y 0 8 + 1)) 3 i (if c i = 63 then 3 else 4)) 6 i 0) (i + 1)).2 0 j = y 0 j := by rw [mCd_n (by decide) (by decide)]; simp [us, upd, h8]
        generalize mCd c i 64 (us (us (us y 0 8 (y 0 8 + 1)) 3 i (if c i = 63 then 3 else 4)) 6 i 0) (i + 1) = q at hq ⊢
        split
        · simp [us, hq]
        · split
          · simp [us, hq]
          · simp [us, upd, h9, hq]
      · unfold mWt; split
        · simp [us, upd, h8]
        · split
          · simp [us, upd, h8]
          · simp [us, upd, h8]
theorem mLoop_n {c : Nat → Int32} {n a : Nat} (h0 : a ≠ 0) (h3 : a ≠ 3) (h4 : a ≠ 4) (h5 : a ≠ 5) (h6 : a ≠ 6) (h7 : a ≠ 7) (h8 : a ≠ 8) : ∀ (m : Nat) (o : Option Nat) (y : Sg) (k : List Nat), (mLoop c n m o y k).2.1 a = y a
  | 0, o, y, k => rfl
  | m + 1, none, y, k => rfl
  | m + 1, some i, y, k => by
    unfold mLoop; split
    · rw [mLoop_n h0 h3 h4 h5 h6 h7 h8 m, mPart_n h0 h3 h4 h5 h6 h7 h8]
    · rfl
theorem mLoop_0 {c : Nat → Int32} {n j : Nat} (h8 : j ≠ 8) (h9 : j ≠ 9) : ∀ (m : Nat) (o : Option Nat) (y : Sg) (k : List Nat), (mLoop c n m o y k).2.1 0 j = y 0 j
  | 0, o, y, k => rfl
  | m + 1, none, y, k => rfl
  | m + 1, some i, y, k => by
    unfold mLoop; split
    · rw [mLoop_0 h8 h9 m, mPart_0 h8 h9]
    · rfl
theorem mPar_n {t : Nat → Int32} {n a : Nat} {y : Sg} (h0 : a ≠ 0) (h3 : a ≠ 3) (h4 : a ≠ 4) (h5 : a ≠ 5) (h6 : a ≠ 6) (h7 : a ≠ 7) (h8 : a ≠ 8) : (mPar t n y).2.1 a = y a := by
  unfold mPar; rw [mLoop_n h0 h3 h4 h5 h6 h7 h8]; simp [y0, us, uc, h0, h3]
theorem mPar_0 {t : Nat → Int32} {n j : Nat} {y : Sg} (h8 : j ≠ 8) (h9 : j ≠ 9) : (mPar t n y).2.1 0 j = y 0 j := by
  unfold mPar; rw [mLoop_0 h8 h9]; simp [y0, us, uc, upd, h8, h9]
theorem yP_n {t : Nat → Int32} {n a : Nat} {y : Sg} (h0 : a ≠ 0) (h3 : a ≠ 3) (h4 : a ≠ 4) (h5 : a ≠ 5) (h6 : a ≠ 6) (h7 : a ≠ 7) (h8 : a ≠ 8) : yP t n y a = y a := by
  unfold yP; rw [us_n h3, mPar_n h0 h3 h4 h5 h6 h7 h8]
theorem yP_0 {t : Nat → Int32} {n j : Nat} {y : Sg} (h8 : j ≠ 8) (h9 : j ≠ 9) : yP t n y 0 j = y 0 j := by
  unfold yP; rw [us_n (by decide), mPar_0 h8 h9]
theorem MT_yP {t : Nat → Int32} {n : Nat} {y : Sg} (h : MT y t n) : MT (yP t n y) t n := MT_c h (yP_0 (by decide) (by decide)) (yP_n (by decide) (by decide) (by decide) (by decide) (by decide) (by decide) (by decide))
theorem MT_mPar {t : Nat → Int32} {n : Nat} {y : Sg} (h : MT y t n) : MT (mPar t n y).2.1 t n := MT_c h (mPar_0 (by decide) (by decide)) (mPar_n (by decide) (by decide) (by decide) (by decide) (by decide) (by decide) (by decide))
section
variable (l : Launch) (y : Sg) (b : Int64) {t : Nat → Int32} {n : Nat}
theorem c_M_progY (hp : MT y t n) (h : mOk t n y) : XMet l 5 q_M_program [.ref 0] (vM y b) (some (.int 1)) (vM (yP t n y) b) := (c_M_program l b y hp).1 h
theorem c_M_progN (hp : MT y t n) (h : ¬ mOk t n y) : XMet l 5 q_M_program [.ref 0] (vM y b) (some (.int 0)) (vM (mPar t n y).2.1 b) := (c_M_program l b y hp).2 h
set_option maxRecDepth 100000 in
theorem c_M_statements (hp : MT y t n) (h : mOk t n y) : XMet l 6 q_M_statements [.ref 0] (vM y b) (some (.int (yP t n y 0 8))) (vM (yP t n y) b) := by
  refine xm_intro (by decide +kernel) (Nat.le_of_ble_eq_true rfl) ?_
  refine xw_go xcls ok_M_statements 40 [] ?_
  refine ⟨5, _, _, by decide, c_M_progY l y b hp h, ?_⟩
  refine And.intro (fun c => absurd c (by decide)) (fun _ => ?_)
  exact And.intro trivial ⟨rfl, rfl⟩
set_option maxRecDepth 100000 in
theorem c_M_statementsN (hp : MT y t n) (h : ¬ mOk t n y) : XMet l 6 q_M_statements [.ref 0] (vM y b) (some (.int (-1))) (vM (mPar t n y).2.1 b) := by
  refine xm_intro (by decide +kernel) (Nat.le_of_ble_eq_true rfl) ?_
  refine xw_go xcls ok_M_statements 40 [] ?_
  refine ⟨5, _, _, by decide, c_M_progN l y b hp h, ?_⟩
  refine And.intro (fun _ => ?_) (fun c => absurd rfl c)
  exact And.intro trivial ⟨rfl, rfl⟩
/-- a place that is in the text or just behind it -/
def inT (n : Nat) (p : Int32) : Prop := 0 ≤ p ∧ p ≤ nI n
set_option maxRecDepth 100000 in
theorem c_M_countsO (hp : MT y t n) (p : Int32) (h : ¬ inT n p) : XMet l 6 q_M_counts [.ref 0, .int p] (vM y b) (some (.int 0)) (vM y b) := by
  refine xm_intro (by decide +kernel) (Nat.le_of_ble_eq_true rfl) ?_
  refine xw_go xcls ok_M_counts 40 [] ?_
  refine And.intro (fun _ => ?_) (fun h1 => ?_)
  · exact And.intro (Or.inl rfl) ⟨rfl, rfl⟩
  · refine And.intro (fun _ => ?_) (fun h2 => ?_)
    · exact And.intro (Or.inl rfl) ⟨rfl, rfl⟩
    · have h2 : ¬ y 0 1 < p := h2
      rw [hp.1] at h2
      exact absurd ⟨Int32.not_lt.mp h1, Int32.not_lt.mp h2⟩ h
set_option maxRecDepth 100000 in
theorem c_M_countsN (hp : MT y t n) (p : Int32) (h : inT n p) (hv : ¬ mOk t n y) : XMet l 6 q_M_counts [.ref 0, .int p] (vM y b) (some (.int 0)) (vM (mPar t n y).2.1 b) := by
  refine xm_intro (by decide +kernel) (Nat.le_of_ble_eq_true rfl) ?_
  refine xw_go xcls ok_M_counts 40 [] ?_
  refine And.intro (fun h1 => absurd h.1 (Int32.not_le.mpr h1)) (fun h1 => ?_)
  refine And.intro (fun h2 => absurd (show p ≤ y 0 1 by rw [hp.1]; exact h.2) (Int32.not_le.mpr h2)) (fun h2 => ?_)
  refine ⟨5, _, _, by decide, c_M_progN l y b hp hv, ?_⟩
  refine And.intro (fun _ => ?_) (fun c => absurd rfl c)
  exact And.intro (Or.inl rfl) ⟨rfl, rfl⟩
set_option maxRecDepth 100000 in
theorem c_M_counts (hp : MT y t n) (p : Nat) (h : p ≤ n) (hv : mOk t n y) : XMet l 6 q_M_counts [.ref 0, .int (nI p)] (vM y b) (some (.int (bI (0 < yP t n y 3 p)))) (vM (yP t n y) b) := by
  have hn := hp.2.1
  refine xm_intro (by decide +kernel) (Nat.le_of_ble_eq_true rfl) ?_
  refine xw_go xcls ok_M_counts 40 [] ?_
  refine And.intro (fun h1 => absurd h1 (nI_n0 (by omega))) (fun h1 => ?_)
  refine And.intro (fun h2 => absurd (show nI p ≤ y 0 1 by rw [hp.1]; exact (nI_le' (by omega) (by omega)).mpr h) (Int32.not_le.mpr h2)) (fun h2 => ?_)
  refine ⟨5, _, _, by decide, c_M_progY l y b hp hv, ?_⟩
  refine And.intro (fun c => absurd c (by decide)) (fun _ => ?_)
  refine And.intro (in_nI (by omega) (by omega)) ?_
  rw [cl_nI (by omega)]
  refine And.intro (fun h3 => ?_) (fun h3 => ?_)
  · exact And.intro (Or.inl rfl) ⟨by rw [bI, if_neg (Int32.not_lt.mpr h3)], rfl⟩
  · exact And.intro (Or.inr rfl) ⟨by rw [bI, if_pos (Int32.not_le.mp h3)], rfl⟩
/-- what study makes of the text -/
def yS (t : Nat → Int32) (n : Nat) (w u v : Nat → Nat) (y : Sg) : DQ := mStd (yP t n y) (chr t n) w u v n (dOf (yP t n y))
def yE (t : Nat → Int32) (n : Nat) (w u v : Nat → Nat) (y : Sg) : Sg := sD (yP t n y) (yS t n w u v y).1 (yS t n w u v y).2
theorem c_M_studyP (w u v : Nat → Nat) (hp : MT y t n) (hm : MPr (yP t n y) (chr t n) n w u v) : XMet l 6 q_M_study [.ref 0] (vM (yP t n y) b) none (vM (yE t n w u v y) b) := c_M_study l (yP t n y) b w u v (MT_yP hp) hm (dOf (yP t n y))
def mAl (A : Nat → Int32) : Nat → Nat
  | 0 => 0
  | k + 1 => mAl A k + if 0 < A k then 1 else 0
set_option maxRecDepth 100000 in
set_option maxHeartbeats 1000000 in
theorem lp_M_alarms (z : Sg) (hp : MT z t n) : ∀ (m k : Nat), k + m = n + 1 → XW l 7 q_M_alarms (fun a x => a = some (.int (nI (mAl (z 12) (n + 1)))) ∧ x = vM z b) 17 [(0, .ref 0), (1, .int (nI (mAl (z 12) k))), (2, .int (nI k))] [] (vM z b)
  | 0, k, hk => by
    have hn := hp.2.1
    have hk : k = n + 1 := hk
    subst hk
    refine xw_go xcls ok_M_alarms 40 [] ?_
    refine And.intro (fun h => ?_) (fun h => ?_)
    · exact And.intro trivial ⟨rfl, rfl⟩
    · have h : ¬ z 0 1 < nI (n + 1) := h
      rw [hp.1, nI_lt' (by omega) (by omega)] at h
      omega
  | m + 1, k, hk => by
    have hn := hp.2.1
    have ih := lp_M_alarms z hp m (k + 1) (by omega)
    refine xw_go xcls ok_M_alarms 40 [(17, [0, 1, 2])] ?_
    refine And.intro (fun h => ?_) (fun h => ?_)
    · have h : z 0 1 < nI k := h
      rw [hp.1, nI_lt' (by omega) (by omega)] at h
      omega
    · refine And.intro (in_nI (by omega) (by omega)) ?_
      rw [cl_nI (by omega)]
      refine And.intro (fun h2 => ?_) (fun h2 => ?_)
      · have h2 : z 12 k ≤ 0 := h2
        rw [show nI (mAl (z 12) (k + 1)) = nI (mAl (z 12) k) + 0 by rw [show (0 : Int32) = nI 0 from rfl, nI_add]; simp only [mAl]; rw [if_neg (Int32.not_lt.mpr h2)], ← nI_p1] at ih
        exact ih
      · have h2 : ¬ z 12 k ≤ 0 := h2
        rw [show nI (mAl (z 12) (k + 1)) = nI (mAl (z 12) k) + 1 by rw [nI_p1]; simp only [mAl]; rw [if_pos (Int32.not_le.mp h2)], ← nI_p1 k] at ih
        exact ih
set_option maxRecDepth 100000 in
set_option maxHeartbeats 1000000 in
theorem c_M_alarms (w u v : Nat → Nat) (hp : MT y t n) (hv : mOk t n y) (hm : MPr (yP t n y) (chr t n) n w u v) : XMet l 7 q_M_alarms [.ref 0] (vM y b) (some (.int (nI (mAl (yE t n w u v y 12) (n + 1))))) (vM (yE t n w u v y) b) := by
  have hpE : MT (yE t n w u v y) t n := MT_yP hp
  have hs := c_M_studyP l y b w u v hp hm
  refine xm_intro (by decide +kernel) (Nat.le_of_ble_eq_true rfl) ?_
  refine xw_go xcls ok_M_alarms 40 [(17, [0, 1, 2])] ?_
  refine ⟨5, _, _, by decide, c_M_progY l y b hp hv, ?_⟩
  refine And.intro (fun _ => ?_) (fun c => absurd c (by decide))
  refine ⟨6, _, _, by decide, hs, ?_⟩
  generalize yE t n w u v y = z at hpE ⊢
  exact lp_M_alarms l b z hpE (n + 1) 0 (by omega)
set_option maxRecDepth 100000 in
theorem c_M_alarmsN (hp : MT y t n) (hv : ¬ mOk t n y) : XMet l 7 q_M_alarms [.ref 0] (vM y b) (some (.int (-1))) (vM (mPar t n y).2.1 b) := by
  refine xm_intro (by decide +kernel) (Nat.le_of_ble_eq_true rfl) ?_
  refine xw_go xcls ok_M_alarms 40 [] ?_
  refine ⟨5, _, _, by decide, c_M_progN l y b hp hv, ?_⟩
  refine And.intro (fun c => absurd rfl c) (fun _ => ?_)
  exact And.intro trivial ⟨rfl, rfl⟩
end
