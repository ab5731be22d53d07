/-! The reference. Its cells: 0 the object, 1 text, 2 solid, 3 role, 4 owner, 5 body, 6 other, 7 behind, 8 blocks, 9 reached, 10 sures, 11 links, 12 alarmed, 13 names, 14 g, 15 h -/
def vM (y : Sg) (b : Int64) : List va_E :=
  .inr (4, [.ref 1, .int (y 0 1), .ref 2, .ref 3, .ref 4, .ref 5, .ref 6, .ref 7, .int (y 0 8), .int (y 0 9), .ref 8, .ref 9, .ref 10, .ref 11, .ref 12, .int (y 0 15), .int (y 0 16), .int (y 0 17), .int (y 0 18), .int (y 0 19), .ref 13, .int (y 0 21), .ref 14, .ref 15, .int (y 0 24), .long b, .int (y 0 26)])
  :: .inl (0, 64, .inl (y 1)) :: .inl (2, 5, .inl (y 2)) :: .inl (0, 65, .inl (y 3)) :: .inl (0, 65, .inl (y 4)) :: .inl (0, 65, .inl (y 5)) :: .inl (0, 65, .inl (y 6)) :: .inl (0, 65, .inl (y 7)) :: .inl (0, 6, .inl (y 8))
  :: .inl (2, 65, .inl (y 9)) :: .inl (0, 65, .inl (y 10)) :: .inl (0, 65, .inl (y 11)) :: .inl (0, 65, .inl (y 12)) :: .inl (0, 5, .inl (y 13)) :: .inl (0, 8, .inl (y 14)) :: .inl (0, 8, .inl (y 15)) :: []
/-- the text of the reference -/
def MT (y : Sg) (t : Nat → Int32) (n : Nat) : Prop := y 0 1 = nI n ∧ n ≤ 64 ∧ y 1 = t
abbrev lcP (x : Int32) : Prop := 97 ≤ x ∧ x ≤ 101
abbrev fdP (c : Nat → Int32) (i : Nat) : Prop := c i = 46 ∧ (c (i + 1) = 103 ∨ c (i + 1) = 104)
section
variable (l : Launch) (y : Sg) (b : Int64) {t : Nat → Int32} {n : Nat}
set_option maxRecDepth 100000 in
set_option maxHeartbeats 1000000 in
theorem c_M_at (i : Nat) (hp : MT y t n) (hi : i < 1000) {x : Int32} (hx : x = nI i := by rfl) : XMet l 0 q_M_at [.ref 0, .int x] (vM y b) (some (.int (chr t n i))) (vM y b) := by
  obtain ⟨hz, hn, rfl⟩ := hp
  subst hx
  refine xm_intro (by decide +kernel) (Nat.le_of_ble_eq_true rfl) ?_
  refine xw_go xcls ok_M_at 40 [] ?_
  refine And.intro (fun h => ?_) (fun h => ?_)
  · have h : y 0 1 ≤ nI i := h
    rw [hz, nI_le' (by omega) (by omega)] at h
    exact And.intro trivial ⟨by simp [chr, Nat.not_lt.mpr h], rfl⟩
  · have h : ¬ y 0 1 ≤ nI i := h
    rw [hz, nI_le' (by omega) (by omega)] at h
    refine And.intro (in_nI (by omega) (by omega)) ?_
    rw [cl_nI (by omega)]
    exact And.intro trivial ⟨by simp [chr, Nat.not_le.mp h], rfl⟩
set_option maxRecDepth 100000 in
set_option maxHeartbeats 1000000 in
theorem c_M_isLocal (i : Nat) (hp : MT y t n) (hi : i < 1000) {x : Int32} (hx : x = nI i := by rfl) : XMet l 1 q_M_isLocal [.ref 0, .int x] (vM y b) (some (.int (bI (lcP (chr t n i))))) (vM y b) := by
  refine xm_intro (by decide +kernel) (Nat.le_of_ble_eq_true rfl) ?_
  refine xw_go xcls ok_M_isLocal 40 [] ?_
  refine ⟨0, _, _, by decide, c_M_at l y b i hp hi hx, ?_⟩
  refine And.intro (fun h => ?_) (fun h => ?_)
  · exact And.intro (Or.inl rfl) ⟨by rw [bI, if_neg (fun c => Int32.not_le.mpr h c.1)], rfl⟩
  · refine ⟨0, _, _, by decide, c_M_at l y b i hp hi hx, ?_⟩
    refine And.intro (fun h2 => ?_) (fun h2 => ?_)
    · exact And.intro (Or.inl rfl) ⟨by rw [bI, if_neg (fun c => Int32.not_le.mpr h2 c.2)], rfl⟩
    · exact And.intro (Or.inr rfl) ⟨by rw [bI, if_pos ⟨Int32.not_lt.mp h, Int32.not_lt.mp h2⟩], rfl⟩
set_option maxRecDepth 100000 in
set_option maxHeartbeats 1000000 in
theorem c_M_isField (i : Nat) (hp : MT y t n) (hi : i < 900) {x : Int32} (hx : x = nI i := by rfl) : XMet l 1 q_M_isField [.ref 0, .int x] (vM y b) (some (.int (bI (fdP (chr t n) i)))) (vM y b) := by
  subst hx
  refine xm_intro (by decide +kernel) (Nat.le_of_ble_eq_true rfl) ?_
  refine xw_go xcls ok_M_isField 40 [] ?_
  refine ⟨0, _, _, by decide, c_M_at l y b i hp (by omega), ?_⟩
  refine And.intro (fun h => ?_) (fun h => ?_)
  · exact And.intro (Or.inl rfl) ⟨by rw [bI, if_neg (fun c => h c.1)], rfl⟩
  · refine ⟨0, _, _, by decide, c_M_at l y b (i + 1) hp (by omega) (nI_p1 i), ?_⟩
    refine And.intro (fun h2 => ?_) (fun h2 => ?_)
    · exact And.intro (Or.inr rfl) ⟨by rw [bI, if_pos ⟨h, Or.inl h2⟩], rfl⟩
    · refine ⟨0, _, _, by decide, c_M_at l y b (i + 1) hp (by omega) (nI_p1 i), ?_⟩
      refine And.intro (fun h3 => ?_) (fun h3 => ?_)
      · exact And.intro (Or.inl rfl) ⟨by rw [bI, if_neg (fun c => c.2.elim h2 h3)], rfl⟩
      · exact And.intro (Or.inr rfl) ⟨by rw [bI, if_pos ⟨h, Or.inr h3⟩], rfl⟩
/-- behind a name, with or without a field -/
def mE (c : Nat → Int32) (k : Nat) : Option Nat := if lcP (c k) then some (if fdP c (k + 1) then k + 3 else k + 1) else none
def mVal (c : Nat → Int32) (i : Nat) : Option Nat := if c i = 110 ∨ c i = 78 ∨ c i = 64 then some (i + 1) else mE c i
def mAtm (c : Nat → Int32) (i : Nat) : Option Nat := if c i = 37 then some (i + 1) else mE c (aNm c i)
theorem mE_le {c : Nat → Int32} {k j : Nat} (h : mE c k = some j) : k < j ∧ j ≤ k + 3 := by
  unfold mE at h; split at h
  · have h := Option.some.inj h
    split at h <;> omega
  · cases h
theorem mAtm_le {c : Nat → Int32} {i j : Nat} (h : mAtm c i = some j) : i < j ∧ j ≤ i + 4 := by
  have h3 : i ≤ aNm c i ∧ aNm c i ≤ i + 1 := by unfold aNm; split <;> omega
  unfold mAtm at h; split at h
  · have h := Option.some.inj h; omega
  · have := mE_le h; omega
theorem mVal_le {c : Nat → Int32} {i j : Nat} (h : mVal c i = some j) : i < j ∧ j ≤ i + 3 := by
  unfold mVal at h; split at h
  · have h := Option.some.inj h; omega
  · exact mE_le h
set_option maxRecDepth 100000 in
set_option maxHeartbeats 1000000 in
theorem c_M_value (i : Nat) (hp : MT y t n) (hi : i < 800) {x : Int32} (hx : x = nI i := by rfl) : XMet l 2 q_M_value [.ref 0, .int x] (vM y b) (some (.int (oI (mVal (chr t n) i)))) (vM y b) := by
  subst hx
  refine xm_intro (by decide +kernel) (Nat.le_of_ble_eq_true rfl) ?_
  have j30 : (chr t n i = 110 ∨ chr t n i = 78 ∨ chr t n i = 64) → XW l 2 q_M_value (fun u w => u = some (.int (oI (mVal (chr t n) i))) ∧ w = vM y b) 30 [(1, .int (nI i))] [] (vM y b) := by
    intro h
    refine xw_go xcls ok_M_value 40 [] ?_
    exact And.intro trivial ⟨by rw [mVal, if_pos h, nI_p1]; rfl, rfl⟩
  refine xw_go xcls ok_M_value 40 [(30, [1])] ?_
  refine ⟨0, _, _, by decide, c_M_at l y b i hp (by omega), ?_⟩
  refine And.intro (fun h => j30 (Or.inl h)) (fun h => ?_)
  refine ⟨0, _, _, by decide, c_M_at l y b i hp (by omega), ?_⟩
  refine And.intro (fun h2 => j30 (Or.inr (Or.inl h2))) (fun h2 => ?_)
  refine ⟨0, _, _, by decide, c_M_at l y b i hp (by omega), ?_⟩
  refine And.intro (fun h3 => ?_) (fun h3 => j30 (Or.inr (Or.inr h3)))
  have e0 : mVal (chr t n) i = mE (chr t n) i := by rw [mVal, if_neg (fun c => c.elim h (fun c => c.elim h2 h3))]
  rw [e0]
  refine ⟨1, _, _, by decide, c_M_isLocal l y b i hp (by omega), ?_⟩
  by_cases q : lcP (chr t n i)
  · rw [show bI (lcP (chr t n i)) = 1 by rw [bI, if_pos q]]
    refine And.intro (fun _ => ?_) (fun c => absurd c (by decide))
    refine ⟨1, _, _, by decide, c_M_isField l y b (i + 1) hp (by omega) (nI_p1 i), ?_⟩
    by_cases q2 : fdP (chr t n) (i + 1)
    · rw [show bI (fdP (chr t n) (i + 1)) = 1 by rw [bI, if_pos q2]]
      refine And.intro (fun c => absurd c (by decide)) (fun _ => ?_)
      exact And.intro trivial ⟨by rw [mE, if_pos q, if_pos q2, nI_p3]; rfl, rfl⟩
    · rw [show bI (fdP (chr t n) (i + 1)) = 0 by rw [bI, if_neg q2]]
      refine And.intro (fun _ => ?_) (fun c => absurd rfl c)
      exact And.intro trivial ⟨by rw [mE, if_pos q, if_neg q2, nI_p1]; rfl, rfl⟩
  · rw [show bI (lcP (chr t n i)) = 0 by rw [bI, if_neg q]]
    refine And.intro (fun c => absurd rfl c) (fun _ => ?_)
    exact And.intro trivial ⟨by rw [mE, if_neg q]; rfl, rfl⟩
set_option maxRecDepth 100000 in
set_option maxHeartbeats 1000000 in
theorem c_M_atom (i : Nat) (hp : MT y t n) (hi : i < 800) {x : Int32} (hx : x = nI i := by rfl) : XMet l 2 q_M_atom [.ref 0, .int x] (vM y b) (some (.int (oI (mAtm (chr t n) i)))) (vM y b) := by
  subst hx
  refine xm_intro (by decide +kernel) (Nat.le_of_ble_eq_true rfl) ?_
  have hnm : i ≤ aNm (chr t n) i ∧ aNm (chr t n) i ≤ i + 1 := by unfold aNm; split <;> omega
  have j17 : ∀ (k : Nat) (x : Int32), x = nI k → k = aNm (chr t n) i → XW l 2 q_M_atom (fun u w => u = some (.int (oI (mAtm (chr t n) i))) ∧ w = vM y b) 17 [(0, .ref 0), (1, .int (nI i))] [.int x] (vM y b) := by
    intro k x hx hk
    subst hx
    refine xw_go xcls ok_M_atom 40 [] ?_
    refine ⟨0, _, _, by decide, c_M_at l y b i hp (by omega), ?_⟩
    refine And.intro (fun h => ?_) (fun h => ?_)
    · have e0 : mAtm (chr t n) i = mE (chr t n) k := by rw [mAtm, if_neg h, hk]
      rw [e0]
      refine ⟨1, _, _, by decide, c_M_isLocal l y b k hp (by omega), ?_⟩
      by_cases q : lcP (chr t n k)
      · rw [show bI (lcP (chr t n k)) = 1 by rw [bI, if_pos q]]
        refine And.intro (fun _ => ?_) (fun c => absurd c (by decide))
        refine ⟨1, _, _, by decide, c_M_isField l y b (k + 1) hp (by omega) (nI_p1 k), ?_⟩
        by_cases q2 : fdP (chr t n) (k + 1)
        · rw [show bI (fdP (chr t n) (k + 1)) = 1 by rw [bI, if_pos q2]]
          refine And.intro (fun c => absurd c (by decide)) (fun _ => ?_)
          exact And.intro trivial ⟨by rw [mE, if_pos q, if_pos q2, nI_p3]; rfl, rfl⟩
        · rw [show bI (fdP (chr t n) (k + 1)) = 0 by rw [bI, if_neg q2]]
          refine And.intro (fun _ => ?_) (fun c => absurd rfl c)
          exact And.intro trivial ⟨by rw [mE, if_pos q, if_neg q2, nI_p1]; rfl, rfl⟩
      · rw [show bI (lcP (chr t n k)) = 0 by rw [bI, if_neg q]]
        refine And.intro (fun c => absurd rfl c) (fun _ => ?_)
        exact And.intro trivial ⟨by rw [mE, if_neg q]; rfl, rfl⟩
    · exact And.intro trivial ⟨by rw [mAtm, if_pos h, nI_p1]; rfl, rfl⟩
  refine xw_go xcls ok_M_atom 40 [(17, [0, 1])] ?_
  refine ⟨0, _, _, by decide, c_M_at l y b i hp (by omega), ?_⟩
  refine And.intro (fun h => ?_) (fun h => ?_)
  · exact j17 i _ rfl (by rw [aNm, if_neg h])
  · exact j17 (i + 1) _ (nI_p1 i) (by rw [aNm, if_pos h])
end
/-- a condition, read from its first atom on -/
def mCd (c : Nat → Int32) (p : Nat) : Nat → Sg → Nat → Option Nat × Sg
  | 0, y, _ => (none, y)
  | k + 1, y, i => match mAtm c i with
    | none => (none, y)
    | some j => if c j = 38 ∨ c j = 124 then mCd c p k (us (us y 3 i 7) 4 i (nI p)) (j + 1) else (if c j = 123 then some (j + 1) else none, us (us y 3 i 7) 4 i (nI p))
section
variable (l : Launch) (b : Int64) {t : Nat → Int32} {n : Nat}
set_option maxRecDepth 100000 in
set_option maxHeartbeats 1000000 in
theorem lp_M_condition (p : Nat) : ∀ (m : Nat) (y : Sg) (i : Nat), MT y t n → m ≤ 64 → i < 65 →
    XW l 3 q_M_condition (fun u w => u = some (.int (oI (mCd (chr t n) p m y i).1)) ∧ w = vM (mCd (chr t n) p m y i).2 b) 6 [(0, .ref 0), (1, .int (nI p)), (2, .int (nI i)), (3, .int (nI (64 - m)))] [] (vM y b)
  | 0, y, i, hp, hm, hi => by
    refine xw_go xcls ok_M_condition 60 [] ?_
    refine And.intro (fun h => ?_) (fun h => absurd (by decide) h)
    exact And.intro trivial ⟨rfl, rfl⟩
  | m + 1, y, i, hp, hm, hi => by
    have hn := hp.2.1
    have hp2 : MT (us (us y 3 i 7) 4 i (nI p)) t n := hp
    refine xw_go xcls ok_M_condition 60 [(6, [0, 1, 2, 3]), (83, [0, 1, 3, 4])] ?_
    refine And.intro (fun h => absurd h (by rw [show (64 : Int32) = nI 64 from rfl, nI_le' (by omega) (by omega)]; omega)) (fun h => ?_)
    refine ⟨2, _, _, by decide, c_M_atom l y b i hp (by omega), ?_⟩
    cases hj : mAtm (chr t n) i with
    | none =>
      refine And.intro (fun c => absurd c (by decide)) (fun _ => ?_)
      exact And.intro trivial ⟨by simp [mCd, hj, oI], by simp [mCd, hj]⟩
    | some j =>
      have hjl := mAtm_le hj
      refine And.intro (fun _ => ?_) (fun c => absurd (nI_g0 (by omega)) c)
      refine And.intro (in_nI (by omega) (by omega)) ?_
      rw [cl_nI (by omega)]
      refine And.intro (in_nI (by omega) (by omega)) ?_
      rw [cl_nI (by omega)]
      have j83 : chr t n j = 38 ∨ chr t n j = 124 → XW l 3 q_M_condition (fun u w => u = some (.int (oI (mCd (chr t n) p (m + 1) y i).1)) ∧ w = vM (mCd (chr t n) p (m + 1) y i).2 b) 83 [(0, .ref 0), (1, .int (nI p)), (3, .int (nI (64 - (m + 1)))), (4, .int (nI j))] [] (vM (us (us y 3 i 7) 4 i (nI p)) b) := by
        intro hc
        have hjn : j < n := by rcases hc with hc | hc <;> exact chr_lt hc (by decide)
        have e0 : mCd (chr t n) p (m + 1) y i = mCd (chr t n) p m (us (us y 3 i 7) 4 i (nI p)) (j + 1) := by simp only [mCd, hj]; rw [if_pos hc]
        rw [e0]
        refine xw_go xcls ok_M_condition 60 [(6, [0, 1, 2, 3])] ?_
        have ih := lp_M_condition p m (us (us y 3 i 7) 4 i (nI p)) (j + 1) hp2 (by omega) (by omega)
        rw [show nI (64 - m) = nI (64 - (m + 1)) + 1 by rw [nI_p1]; congr 1; omega, ← nI_p1 j] at ih
        exact ih
      refine ⟨0, _, _, by decide, c_M_at l (us (us y 3 i 7) 4 i (nI p)) b j hp2 (by omega), ?_⟩
      refine And.intro (fun h2 => j83 (Or.inl h2)) (fun h2 => ?_)
      refine ⟨0, _, _, by decide, c_M_at l (us (us y 3 i 7) 4 i (nI p)) b j hp2 (by omega), ?_⟩
      refine And.intro (fun h3 => j83 (Or.inr h3)) (fun h3 => ?_)
      refine ⟨0, _, _, by decide, c_M_at l (us (us y 3 i 7) 4 i (nI p)) b j hp2 (by omega), ?_⟩
      have e0 : mCd (chr t n) p (m + 1) y i = (if chr t n j = 123 then some (j + 1) else none, us (us y 3 i 7) 4 i (nI p)) := by simp only [mCd, hj]; rw [if_neg (fun c => c.elim h2 h3)]
      rw [e0]
      refine And.intro (fun h4 => ?_) (fun h4 => ?_)
      · exact And.intro trivial ⟨by rw [if_neg h4]; rfl, rfl⟩
      · exact And.intro trivial ⟨by rw [if_pos h4]; exact congrArg (fun x => some (Value.int x)) (nI_p1 j), rfl⟩
set_option maxRecDepth 100000 in
set_option maxHeartbeats 1000000 in
theorem c_M_condition (y : Sg) (p : Nat) (hp : MT y t n) (hi : p < 64) : XMet l 3 q_M_condition [.ref 0, .int (nI p)] (vM y b) (some (.int (oI (mCd (chr t n) p 64 y (p + 1)).1))) (vM (mCd (chr t n) p 64 y (p + 1)).2 b) := by
  refine xm_intro (by decide +kernel) (Nat.le_of_ble_eq_true rfl) ?_
  refine xw_go xcls ok_M_condition 60 [(6, [0, 1, 2, 3])] ?_
  have ih := lp_M_condition l b p 64 y (p + 1) hp (by omega) (by omega)
  rw [← nI_p1 p] at ih
  exact ih
end
