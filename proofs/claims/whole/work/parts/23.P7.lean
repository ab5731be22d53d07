/-! Program: append, clear, counts -/
/-- the byte of number m of a long, from below -/
def bO (x : Int64) (m : Nat) : Int32 := (x.toUInt64 >>> ((nI (8 * m)).toInt64.toUInt64 &&& Int64.toUInt64 63)).toInt64.toInt32 &&& 255
set_option maxRecDepth 100000 in
set_option maxHeartbeats 1000000 in
theorem c_P_byteOf (l : Launch) (w : List va_E) (x : Int64) (m : Nat) {s : Int32} (hs : s = nI (8 * m) := by rfl) : XMet l 0 q_P_byteOf [.long x, .int s] w (some (.int (bO x m))) w := by
  subst hs
  refine xm_intro (by decide +kernel) (Nat.le_of_ble_eq_true rfl) ?_
  refine xw_go xcls ok_P_byteOf 40 [] ?_
  exact And.intro trivial ⟨rfl, rfl⟩
/-- how many characters: none if one is not allowed -/
def fCnt (x : Int64) : Nat → Nat → Option Nat
  | 0, a => some a
  | m + 1, a => if ¬ bO x m = 0 ∧ (bO x m < 33 ∨ 126 < bO x m) then none else fCnt x m (a + if bO x m = 0 then 0 else 1)
theorem nI_8 (m : Nat) : nI (8 * (m + 1)) - 8 = nI (8 * m) := by
  rw [show (8 : Int32) = nI 8 from rfl, pk_sub (by omega)]; congr 1
theorem m8 (x : Int32) : x + (-8) = x - 8 := (Int32.sub_eq_add_neg x 8).symm
set_option maxRecDepth 100000 in
set_option maxHeartbeats 1000000 in
theorem lp_P_countCharacters (l : Launch) (w : List va_E) (x : Int64) : ∀ (m a : Nat), m ≤ 8 → XW l 1 q_P_countCharacters (fun u b => u = some (.int (oI (fCnt x m a))) ∧ b = w) 5 [(0, .long x), (2, .int (nI a)), (3, .int (nI (8 * m) - 8))] [] w
  | 0, a, hm => by
    refine xw_go xcls ok_P_countCharacters 60 [] ?_
    refine And.intro (fun h => ?_) (fun h => absurd (by decide) h)
    exact And.intro trivial ⟨rfl, rfl⟩
  | m + 1, a, hm => by
    rw [nI_8]
    refine xw_go xcls ok_P_countCharacters 60 [(5, [0, 2, 3]), (37, [0, 2, 3, 4])] ?_
    refine And.intro (fun h => absurd h (nI_n0 (by omega))) (fun h => ?_)
    refine ⟨0, _, _, by decide, c_P_byteOf l w x m, ?_⟩
    have j37 : ¬ (¬ bO x m = 0 ∧ (bO x m < 33 ∨ 126 < bO x m)) → XW l 1 q_P_countCharacters (fun u b => u = some (.int (oI (fCnt x (m + 1) a))) ∧ b = w) 37 [(0, .long x), (2, .int (nI a)), (3, .int (nI (8 * m))), (4, .int (bO x m))] [] w := by
      intro hc
      have e : fCnt x (m + 1) a = fCnt x m (a + if bO x m = 0 then 0 else 1) := by simp only [fCnt]; rw [if_neg hc]
      rw [e]
      have ih := lp_P_countCharacters l w x m (a + if bO x m = 0 then 0 else 1) (by omega)
      refine xw_go xcls ok_P_countCharacters 60 [(5, [0, 2, 3])] ?_
      refine And.intro (fun q => ?_) (fun q => ?_)
      · rw [if_pos q] at ih ⊢
        rw [Nat.add_zero] at ih ⊢
        rw [show nI a = nI a + 0 from (nI_add a 0).symm, ← m8] at ih
        exact ih
      · rw [if_neg q] at ih ⊢
        rw [← nI_p1, ← m8] at ih
        exact ih
    refine And.intro (fun q => ?_) (fun q => ?_)
    · exact j37 (fun c => c.1 q)
    · refine And.intro (fun q2 => ?_) (fun q2 => ?_)
      · have e : fCnt x (m + 1) a = none := by simp only [fCnt]; rw [if_pos ⟨q, Or.inl q2⟩]
        rw [e]
        exact And.intro trivial ⟨rfl, rfl⟩
      · refine And.intro (fun q3 => ?_) (fun q3 => ?_)
        · exact j37 (fun c => c.2.elim q2 (Int32.not_lt.mpr q3))
        · have e : fCnt x (m + 1) a = none := by simp only [fCnt]; rw [if_pos ⟨q, Or.inr (Int32.not_le.mp q3)⟩]
          rw [e]
          exact And.intro trivial ⟨rfl, rfl⟩
set_option maxRecDepth 100000 in
set_option maxHeartbeats 1000000 in
theorem c_P_countCharacters (l : Launch) (w : List va_E) (x : Int64) : XMet l 1 q_P_countCharacters [.long x] w (some (.int (oI (fCnt x 8 0)))) w := by
  refine xm_intro (by decide +kernel) (Nat.le_of_ble_eq_true rfl) ?_
  refine xw_go xcls ok_P_countCharacters 60 [(5, [0, 2, 3])] ?_
  exact lp_P_countCharacters l w x 8 0 (by omega)
/-- the text with the characters of a long behind it -/
def fApp (x : Int64) : Nat → (Nat → Int32) → Nat → (Nat → Int32) × Nat
  | 0, t, n => (t, n)
  | m + 1, t, n => if bO x m = 0 then fApp x m t n else fApp x m (upd t n (vp_nar .char ((bO x m).toUInt32 % 65536).toInt32)) (n + 1)
/-- how many characters, all of them allowed -/
def nCh (x : Int64) : Nat → Nat
  | 0 => 0
  | m + 1 => (if bO x m = 0 then 0 else 1) + nCh x m
theorem fCnt_eq {x : Int64} : ∀ (m a b : Nat), fCnt x m a = some b → b = a + nCh x m
  | 0, a, b, h => by simp only [fCnt] at h; cases h; simp [nCh]
  | m + 1, a, b, h => by
    simp only [fCnt] at h
    split at h
    · cases h
    · have := fCnt_eq m _ b h
      simp only [nCh]; omega
theorem nCh_le {x : Int64} : ∀ m, nCh x m ≤ m
  | 0 => Nat.le_refl _
  | m + 1 => by
    have := nCh_le (x := x) m
    simp only [nCh]; split <;> omega
def sT (z : Sg) (q : (Nat → Int32) × Nat) : Sg := us (uc z 1 q.1) 0 1 (nI q.2)
theorem sT_1 {z : Sg} {q : (Nat → Int32) × Nat} : sT z q 1 = q.1 := by simp [sT, us, uc]
set_option maxRecDepth 100000 in
set_option maxHeartbeats 1000000 in
theorem lp_P_append (l : Launch) (z : Sg) (r : List va_E) (x : Int64) : ∀ (m : Nat) (t : Nat → Int32) (n : Nat), m ≤ 8 → n + nCh x m ≤ 64 → XW l 2 q_P_append (fun u b => u = some (.int 1) ∧ b = wP (sT z (fApp x m t n)) r) 27 [(0, .ref 0), (1, .long x), (4, .int (nI (8 * m) - 8))] [] (wP (sT z (t, n)) r)
  | 0, t, n, hm, hn => by
    refine xw_go xcls ok_P_append 60 [] ?_
    refine And.intro (fun h => ?_) (fun h => absurd (by decide) h)
    exact And.intro (Or.inr rfl) ⟨rfl, rfl⟩
  | m + 1, t, n, hm, hn => by
    rw [nI_8]
    simp only [nCh] at hn
    refine xw_go xcls ok_P_append 60 [(27, [0, 1, 4])] ?_
    refine And.intro (fun h => absurd h (nI_n0 (by omega))) (fun h => ?_)
    refine ⟨0, _, _, by decide, c_P_byteOf l _ x m, ?_⟩
    refine And.intro (fun q => ?_) (fun q => ?_)
    · have e : fApp x (m + 1) t n = fApp x m t n := by simp [fApp, q]
      rw [e]
      have ih := lp_P_append l z r x m t n (by omega) (by rw [if_pos q] at hn; omega)
      rw [← m8] at ih
      exact ih
    · rw [if_neg q] at hn
      have e : fApp x (m + 1) t n = fApp x m (upd t n (vp_nar .char ((bO x m).toUInt32 % 65536).toInt32)) (n + 1) := by simp [fApp, q]
      rw [e]
      have e01 : sT z (t, n) 0 1 = nI n := rfl
      refine And.intro (by rw [e01]; exact in_nI (by omega) (by omega)) ?_
      rw [e01, cl_nI (by omega)]
      refine And.intro trivial ?_
      rw [e01, nI_p1]
      have ih := lp_P_append l z r x m (upd t n (vp_nar .char ((bO x m).toUInt32 % 65536).toInt32)) (n + 1) (by omega) (by omega)
      rw [← m8] at ih
      exact ih
def canApp (x : Int64) (n : Nat) : Prop := ∃ a, fCnt x 8 0 = some a ∧ n + a ≤ 64
set_option maxRecDepth 100000 in
set_option maxHeartbeats 1000000 in
theorem c_P_append (l : Launch) (z : Sg) (r : List va_E) (x : Int64) {t : Nat → Int32} {n : Nat} (hp : PT z t n) (hc : canApp x n) : XMet l 2 q_P_append [.ref 0, .long x] (wP z r) (some (.int 1)) (wP (sT z (fApp x 8 t n)) r) := by
  obtain ⟨hz, hn, rfl, ht⟩ := hp
  obtain ⟨a, ha, hna⟩ := hc
  have hb := fCnt_eq _ _ _ ha
  have hl := nCh_le (x := x) 8
  refine xm_intro (by decide +kernel) (Nat.le_of_ble_eq_true rfl) ?_
  refine xw_go xcls ok_P_append 60 [(27, [0, 1, 4])] ?_
  refine ⟨1, _, _, by decide, c_P_countCharacters l _ x, ?_⟩
  rw [ha]
  refine And.intro (fun q => absurd q (nI_nm1 (by omega))) (fun q => ?_)
  refine And.intro (fun q2 => ?_) (fun q2 => ?_)
  · have ih := lp_P_append l z r x 8 (z 1) n (by omega) (by omega)
    have e : wP (sT z (z 1, n)) r = wP z r := by
      show wP (us (uc z 1 (z 1)) 0 1 (nI n)) r = _
      rw [← hz]; rfl
    rw [e] at ih
    exact ih
  · have q2 : ¬ z 0 1 + nI a ≤ 64 := q2
    rw [hz, nI_add, show (64 : Int32) = nI 64 from rfl, nI_le' (by omega) (by omega)] at q2
    omega
set_option maxRecDepth 100000 in
set_option maxHeartbeats 1000000 in
theorem c_P_appendN (l : Launch) (z : Sg) (r : List va_E) (x : Int64) {t : Nat → Int32} {n : Nat} (hp : PT z t n) (hc : ¬ canApp x n) : XMet l 2 q_P_append [.ref 0, .long x] (wP z r) (some (.int 0)) (wP z r) := by
  obtain ⟨hz, hn, rfl, ht⟩ := hp
  have hl := nCh_le (x := x) 8
  refine xm_intro (by decide +kernel) (Nat.le_of_ble_eq_true rfl) ?_
  refine xw_go xcls ok_P_append 60 [(27, [0, 1, 4])] ?_
  refine ⟨1, _, _, by decide, c_P_countCharacters l _ x, ?_⟩
  refine And.intro (fun q => ?_) (fun q => ?_)
  · exact And.intro (Or.inl rfl) ⟨rfl, rfl⟩
  · cases ha : fCnt x 8 0 with
    | none => rw [ha] at q; exact absurd rfl q
    | some a =>
      have hb := fCnt_eq _ _ _ ha
      refine And.intro (fun q2 => ?_) (fun q2 => ?_)
      · have q2 : z 0 1 + oI (some a) ≤ 64 := q2
        have q2 : z 0 1 + nI a ≤ 64 := q2
        rw [hz, nI_add, show (64 : Int32) = nI 64 from rfl, nI_le' (by omega) (by omega)] at q2
        exact absurd ⟨a, ha, q2⟩ hc
      · exact And.intro (Or.inl rfl) ⟨rfl, rfl⟩
set_option maxRecDepth 100000 in
set_option maxHeartbeats 1000000 in
theorem c_P_clear (l : Launch) (z : Sg) (r : List va_E) : XMet l 0 q_P_clear [.ref 0] (wP z r) none (wP (us z 0 1 0) r) := by
  refine xm_intro (by decide +kernel) (Nat.le_of_ble_eq_true rfl) ?_
  refine xw_go xcls ok_P_clear 40 [] ?_
  exact And.intro trivial (And.intro rfl ⟨rfl, rfl⟩)
/-- a place that counts -/
def cntP (z : Sg) (n : Nat) (p : Int32) : Prop := ¬ z 0 2 = 0 ∧ 0 ≤ p ∧ p ≤ nI n ∧ ¬ z 2 p.toNatClampNeg = 0
theorem in_le {p : Int32} {n N : Nat} (h0 : 0 ≤ p) (h1 : p ≤ nI n) (hn : n < N) (hN : N < 1000) : vp_in p N := by
  rw [vp_in_iff]
  have a := Int32.le_iff_toInt_le.mp h0
  have b := Int32.le_iff_toInt_le.mp h1
  rw [nI_toInt (by omega)] at b
  have c : (0 : Int32).toInt = 0 := by decide
  omega
set_option maxRecDepth 100000 in
set_option maxHeartbeats 1000000 in
theorem c_P_counts (l : Launch) (z : Sg) (r : List va_E) (p : Int32) {t : Nat → Int32} {n : Nat} (hp : PT z t n) (b : Int32) (hb : (cntP z n p ∧ b = 1) ∨ (¬ cntP z n p ∧ b = 0)) : XMet l 0 q_P_counts [.ref 0, .int p] (wP z r) (some (.int b)) (wP z r) := by
  obtain ⟨hz, hn, rfl, ht⟩ := hp
  refine xm_intro (by decide +kernel) (Nat.le_of_ble_eq_true rfl) ?_
  have no : ¬ cntP z n p → XW l 0 q_P_counts (fun u v => u = some (.int b) ∧ v = wP z r) 32 [] [] (wP z r) := by
    intro h
    rcases hb with ⟨h1, -⟩ | ⟨-, rfl⟩
    · exact absurd h1 h
    · refine xw_go xcls ok_P_counts 40 [] ?_
      exact And.intro (Or.inl rfl) ⟨rfl, rfl⟩
  refine xw_go xcls ok_P_counts 40 [(32, [])] ?_
  refine And.intro (fun q => no (fun c => c.1 q)) (fun q => ?_)
  refine And.intro (fun q2 => no (fun c => Int32.not_le.mpr q2 c.2.1)) (fun q2 => ?_)
  refine And.intro (fun q3 => no (fun c => Int32.not_le.mpr q3 (by rw [hz]; exact c.2.2.1))) (fun q3 => ?_)
  have q2 := Int32.not_lt.mp q2
  have q3 : p ≤ nI n := by rw [← hz]; exact Int32.not_lt.mp q3
  refine And.intro (in_le q2 q3 (by omega) (by omega)) ?_
  refine And.intro (fun q4 => no (fun c => c.2.2.2 q4)) (fun q4 => ?_)
  rcases hb with ⟨-, rfl⟩ | ⟨h1, -⟩
  · exact And.intro (Or.inr rfl) ⟨rfl, rfl⟩
  · exact absurd ⟨q, q2, q3, q4⟩ h1
