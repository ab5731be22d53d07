/-! The reference: blocks, parts of the text -/
def RBk (y : Sg) : List Nat → Prop
  | [] => True
  | h :: r => y 8 r.length = nI h ∧ h < 65 ∧ RBk y r
def MStk (y : Sg) (k : List Nat) : Prop := y 0 9 = nI k.length ∧ k.length ≤ 6 ∧ RBk y k
theorem RBk_c {y y' : Sg} : ∀ (k : List Nat), (∀ j, j < k.length → y' 8 j = y 8 j) → RBk y k → RBk y' k
  | [], _, _ => trivial
  | h :: r, hh, hR => ⟨(hh r.length (by simp)).trans hR.1, hR.2.1, RBk_c r (fun j hj => hh j (by simp; omega)) hR.2.2⟩
theorem MT_c {z z' : Sg} {t : Nat → Int32} {n : Nat} (h : MT z t n) (h0 : z' 0 1 = z 0 1) (h1 : z' 1 = z 1) : MT z' t n := ⟨h0.trans h.1, h.2.1, h1.trans h.2.2⟩
section
variable (l : Launch) (y : Sg) (b : Int64) {t : Nat → Int32} {n : Nat}
set_option maxRecDepth 100000 in
set_option maxHeartbeats 1000000 in
theorem c_M_open (d p : Nat) (hd : y 0 9 = nI d) (hd6 : d < 6) : XMet l 0 q_M_open [.ref 0, .int (nI p)] (vM y b) (some (.int 1)) (vM (us (us y 8 d (nI p)) 0 9 (nI (d + 1))) b) := by
  refine xm_intro (by decide +kernel) (Nat.le_of_ble_eq_true rfl) ?_
  refine xw_go xcls ok_M_open 40 [] ?_
  refine And.intro (fun h => ?_) (fun h => ?_)
  · refine And.intro (by show vp_in (y 0 9) 6; rw [hd]; exact in_nI (by omega) (by omega)) ?_
    rw [hd, cl_nI (by omega)]
    refine And.intro trivial ?_
    rw [hd, nI_p1]
    exact And.intro (Or.inr rfl) ⟨rfl, rfl⟩
  · have h : y 0 9 = 6 := h
    rw [hd, show (6 : Int32) = nI 6 from rfl, nI_eq' (by omega) (by omega)] at h
    omega
set_option maxRecDepth 100000 in
set_option maxHeartbeats 1000000 in
theorem c_M_openN (p : Nat) (hd : y 0 9 = nI 6) : XMet l 0 q_M_open [.ref 0, .int (nI p)] (vM y b) (some (.int 0)) (vM y b) := by
  refine xm_intro (by decide +kernel) (Nat.le_of_ble_eq_true rfl) ?_
  refine xw_go xcls ok_M_open 40 [] ?_
  refine And.intro (fun h => absurd hd h) (fun h => ?_)
  exact And.intro (Or.inl rfl) ⟨rfl, rfl⟩
/-- a '}' begun: depth, owner, behind -/
def mCl1 (y : Sg) (i h d : Nat) : Sg := us (us (us y 0 9 (nI d)) 4 i (nI h)) 7 h (nI (i + 1))
def mClose (c : Nat → Int32) (y : Sg) (i : Nat) : List Nat → Option Nat × Sg × List Nat
  | [] => (none, y, [])
  | h :: r => if y 3 h = 3 ∧ y 6 h = 0 ∧ c (i + 1) = 123 then (some (i + 2), us (us (us (mCl1 y i h r.length) 6 h (nI (i + 2))) 8 r.length (nI h)) 0 9 (nI (r.length + 1)), h :: r) else (some (i + 1), mCl1 y i h r.length, r)
set_option maxRecDepth 100000 in
set_option maxHeartbeats 1000000 in
theorem c_M_close (i : Nat) (k : List Nat) (hp : MT y t n) (hi : i < 64) (hs : MStk y k) : XMet l 1 q_M_close [.ref 0, .int (nI i)] (vM y b) (some (.int (oI (mClose (chr t n) y i k).1))) (vM (mClose (chr t n) y i k).2.1 b) := by
  refine xm_intro (by decide +kernel) (Nat.le_of_ble_eq_true rfl) ?_
  obtain ⟨hd, hd6, hR⟩ := hs
  cases k with
  | nil =>
    refine xw_go xcls ok_M_close 60 [] ?_
    refine And.intro (fun h1 => absurd hd h1) (fun h1 => ?_)
    exact And.intro trivial ⟨rfl, rfl⟩
  | cons h k =>
    obtain ⟨h8, h65, hR⟩ := hR
    have hd : y 0 9 = nI (k.length + 1) := hd
    have hk : k.length < 6 := by have : k.length + 1 ≤ 6 := hd6; omega
    have j101 : ¬ (y 3 h = 3 ∧ y 6 h = 0 ∧ chr t n (i + 1) = 123) → XW l 1 q_M_close (fun u w => u = some (.int (oI (mClose (chr t n) y i (h :: k)).1)) ∧ w = vM (mClose (chr t n) y i (h :: k)).2.1 b) 101 [(1, .int (nI i))] [] (vM (mCl1 y i h k.length) b) := by
      intro hc
      rw [show mClose (chr t n) y i (h :: k) = (some (i + 1), mCl1 y i h k.length, k) by simp only [mClose]; rw [if_neg hc]]
      refine xw_go xcls ok_M_close 60 [] ?_
      exact And.intro trivial ⟨by rw [nI_p1]; rfl, rfl⟩
    refine xw_go xcls ok_M_close 60 [(101, [1])] ?_
    refine And.intro (fun h1 => ?_) (fun h1 => absurd (hd.symm.trans h1) (by rw [show (0 : Int32) = nI 0 from rfl, nI_eq' (by omega) (by omega)]; omega))
    refine And.intro trivial ?_
    rw [hd, nI_p]
    refine And.intro (in_nI (by omega) (by omega)) ?_
    rw [cl_nI (by omega), h8]
    refine And.intro (in_nI (by omega) (by omega)) ?_
    rw [cl_nI (by omega)]
    refine And.intro (in_nI (by omega) (by omega)) ?_
    rw [cl_nI (by omega), nI_p1]
    refine And.intro (in_nI (by omega) (by omega)) ?_
    rw [cl_nI (by omega)]
    refine And.intro (fun h2 => j101 (fun c => h2 c.1)) (fun h2 => ?_)
    refine And.intro (in_nI (by omega) (by omega)) ?_
    rw [cl_nI (by omega)]
    refine And.intro (fun h3 => j101 (fun c => h3 c.2.1)) (fun h3 => ?_)
    refine ⟨0, _, _, by decide, c_M_at l (mCl1 y i h k.length) b (i + 1) hp (by omega) (nI_p1 i), ?_⟩
    refine And.intro (fun h4 => j101 (fun c => h4 c.2.2)) (fun h4 => ?_)
    rw [show mClose (chr t n) y i (h :: k) = (some (i + 2), us (us (us (mCl1 y i h k.length) 6 h (nI (i + 2))) 8 k.length (nI h)) 0 9 (nI (k.length + 1)), h :: k) by simp only [mClose]; rw [if_pos ⟨h2, h3, h4⟩]]
    refine And.intro (in_nI (by omega) (by omega)) ?_
    rw [cl_nI (by omega), nI_p2]
    refine ⟨0, _, _, by decide, c_M_open l (us (mCl1 y i h k.length) 6 h (nI (i + 2))) b k.length h rfl hk, ?_⟩
    refine And.intro (fun c => absurd c (by decide)) (fun _ => ?_)
    exact And.intro trivial ⟨by rw [nI_p2]; rfl, rfl⟩
theorem mCd_n {c : Nat → Int32} {p a : Nat} (h3 : a ≠ 3) (h4 : a ≠ 4) : ∀ (k : Nat) (y : Sg) (i : Nat), (mCd c p k y i).2 a = y a
  | 0, y, i => rfl
  | k + 1, y, i => by
    unfold mCd; split
    · rfl
    · split
      · rw [mCd_n h3 h4 k]; simp [us, h3, h4]
      · simp [us, h3, h4]
theorem mCd_b {t : Nat → Int32} {n p : Nat} (hn : n ≤ 64) : ∀ (k : Nat) (y : Sg) (i j : Nat), (mCd (chr t n) p k y i).1 = some j → i < j ∧ j < 66
  | 0, y, i, j, h => by cases h
  | k + 1, y, i, j, h => by
    unfold mCd at h
    cases hq : mAtm (chr t n) i with
    | none => rw [hq] at h; cases h
    | some q =>
      rw [hq] at h
      have hl := mAtm_le hq
      simp only at h
      split at h
      · have := mCd_b hn k _ _ j h; omega
      · split at h
        · rename_i h2
          have h := Option.some.inj h
          have := chr_lt h2 (by decide)
          omega
        · cases h
/-- what stands at i, read -/
def mIf (c : Nat → Int32) (y : Sg) (i : Nat) (k : List Nat) : Option Nat × Sg × List Nat :=
  match (mCd c i 64 (us (us (us y 0 8 (y 0 8 + 1)) 3 i (if c i = 63 then 3 else 4)) 6 i 0) (i + 1)).1 with
  | none => (none, us (mCd c i 64 (us (us (us y 0 8 (y 0 8 + 1)) 3 i (if c i = 63 then 3 else 4)) 6 i 0) (i + 1)).2 5 i (-1), k)
  | some j => if k.length = 6 then (none, us (mCd c i 64 (us (us (us y 0 8 (y 0 8 + 1)) 3 i (if c i = 63 then 3 else 4)) 6 i 0) (i + 1)).2 5 i (nI j), k)
    else (some j, us (us (us (mCd c i 64 (us (us (us y 0 8 (y 0 8 + 1)) 3 i (if c i = 63 then 3 else 4)) 6 i 0) (i + 1)).2 5 i (nI j)) 8 k.length (nI i)) 0 9 (nI (k.length + 1)), i :: k)
def mW1 (c : Nat → Int32) (i : Nat) : Nat := if fdP c (i + 1) then i + 3 else i + 1
def mWt (c : Nat → Int32) (y : Sg) (i : Nat) (k : List Nat) : Option Nat × Sg × List Nat :=
  if ¬ lcP (c i) ∨ ¬ c (mW1 c i) = 61 then (none, us y 0 8 (y 0 8 + 1), k)
  else match mVal c (mW1 c i + 1) with
    | none => (none, us (us (us y 0 8 (y 0 8 + 1)) 3 i (if fdP c (i + 1) then 2 else 1)) 7 i 0, k)
    | some q => (if c q = 59 then some (q + 1) else none, us (us (us y 0 8 (y 0 8 + 1)) 3 i (if fdP c (i + 1) then 2 else 1)) 7 i (nI (q + 1)), k)
def mPart (c : Nat → Int32) (y : Sg) (i : Nat) (k : List Nat) : Option Nat × Sg × List Nat :=
  if c i = 125 then mClose c y i k
  else if c i = 33 ∨ c i = 94 then (if c (i + 1) = 59 then some (i + 2) else none, us (us (us y 0 8 (y 0 8 + 1)) 3 i (if c i = 33 then 5 else 6)) 7 i (nI (i + 2)), k)
  else if c i = 63 ∨ c i = 42 then mIf c y i k
  else mWt c y i k
set_option maxRecDepth 100000 in
set_option maxHeartbeats 2000000 in
theorem c_M_part (i : Nat) (k : List Nat) (hp : MT y t n) (hi : i < 64) (hs : MStk y k) : XMet l 4 q_M_part [.ref 0, .int (nI i)] (vM y b) (some (.int (oI (mPart (chr t n) y i k).1))) (vM (mPart (chr t n) y i k).2.1 b) := by
  have hn := hp.2.1
  refine xm_intro (by decide +kernel) (Nat.le_of_ble_eq_true rfl) ?_
  generalize hres : mPart (chr t n) y i k = res
  have hp1 : MT (us y 0 8 (y 0 8 + 1)) t n := hp
  -- a sign
  have sg : ∀ x : Int32, ¬ chr t n i = 125 → (chr t n i = 33 ∨ chr t n i = 94) → x = (if chr t n i = 33 then 5 else 6) → XW l 4 q_M_part (fun u w => u = some (.int (oI res.1)) ∧ w = vM res.2.1 b) 57 [(0, .ref 0), (1, .int (nI i))] [.int x, .int (nI i), .ref 3] (vM (us y 0 8 (y 0 8 + 1)) b) := by
    intro x h0 h1 hx
    subst hx
    rw [← hres, mPart, if_neg h0, if_pos h1]
    refine xw_go xcls ok_M_part 60 [] ?_
    refine And.intro (in_nI (by omega) (by omega)) ?_
    rw [cl_nI (by omega)]
    refine And.intro (in_nI (by omega) (by omega)) ?_
    rw [cl_nI (by omega), nI_p2]
    refine ⟨0, _, _, by decide, c_M_at l (us (us (us y 0 8 (y 0 8 + 1)) 3 i (if chr t n i = 33 then 5 else 6)) 7 i (nI (i + 2))) b (i + 1) hp (by omega) (nI_p1 i), ?_⟩
    refine And.intro (fun h => ?_) (fun h => ?_)
    · exact And.intro trivial ⟨by rw [if_neg h]; rfl, rfl⟩
    · exact And.intro trivial ⟨by rw [if_pos h, nI_p2]; rfl, rfl⟩
  have sg0 : ¬ chr t n i = 125 → (chr t n i = 33 ∨ chr t n i = 94) → XW l 4 q_M_part (fun u w => u = some (.int (oI res.1)) ∧ w = vM res.2.1 b) 40 [(0, .ref 0), (1, .int (nI i)), (2, .int (chr t n i))] [] (vM (us y 0 8 (y 0 8 + 1)) b) := by
    intro h0 h1
    refine xw_go xcls ok_M_part 60 [(57, [0, 1])] ?_
    refine And.intro (fun h => ?_) (fun h => ?_)
    · exact sg 6 h0 h1 (by rw [if_neg h])
    · exact sg 5 h0 h1 (by rw [if_pos h])
  -- a condition
  have cd : ∀ x : Int32, ¬ chr t n i = 125 → ¬ (chr t n i = 33 ∨ chr t n i = 94) → (chr t n i = 63 ∨ chr t n i = 42) → x = (if chr t n i = 63 then 3 else 4) → XW l 4 q_M_part (fun u w => u = some (.int (oI res.1)) ∧ w = vM res.2.1 b) 115 [(0, .ref 0), (1, .int (nI i))] [.int x, .int (nI i), .ref 3] (vM (us y 0 8 (y 0 8 + 1)) b) := by
    intro x h0 h1 h2 hx
    subst hx
    rw [← hres, mPart, if_neg h0, if_neg h1, if_pos h2]
    have hb2 := mCd_b (t := t) (p := i) hn 64 (us (us (us y 0 8 (y 0 8 + 1)) 3 i (if chr t n i = 63 then 3 else 4)) 6 i 0) (i + 1)
    have hn9 : (mCd (chr t n) i 64 (us (us (us y 0 8 (y 0 8 + 1)) 3 i (if chr t n i = 63 then 3 else 4)) 6 i 0) (i + 1)).2 0 = (us y 0 8 (y 0 8 + 1)) 0 := by rw [mCd_n (by decide) (by decide)]; rfl
    have cc := c_M_condition l b (us (us (us y 0 8 (y 0 8 + 1)) 3 i (if chr t n i = 63 then 3 else 4)) 6 i 0) i hp hi
    unfold mIf
    generalize mCd (chr t n) i 64 (us (us (us y 0 8 (y 0 8 + 1)) 3 i (if chr t n i = 63 then 3 else 4)) 6 i 0) (i + 1) = q at hb2 hn9 cc ⊢
    obtain ⟨o, q⟩ := q
    have hq9 : q 0 9 = nI k.length := (congrFun hn9 9).trans hs.1
    refine xw_go xcls ok_M_part 60 [] ?_
    refine And.intro (in_nI (by omega) (by omega)) ?_
    rw [cl_nI (by omega)]
    refine And.intro (in_nI (by omega) (by omega)) ?_
    rw [cl_nI (by omega)]
    refine ⟨3, _, _, by decide, cc, ?_⟩
    refine And.intro (in_nI (by omega) (by omega)) ?_
    rw [cl_nI (by omega)]
    refine And.intro (in_nI (by omega) (by omega)) ?_
    rw [cl_nI (by omega)]
    have eu : ∀ x : Int32, upd (q 5) i x i = x := fun x => pk_us
    rw [eu]
    cases o with
    | none =>
      refine And.intro (fun h => ?_) (fun h => absurd (show (-1 : Int32) < 0 by decide) h)
      exact And.intro trivial ⟨rfl, rfl⟩
    | some j =>
      have hj := hb2 j rfl
      refine And.intro (fun h => absurd h (nI_n0 (by omega))) (fun h => ?_)
      by_cases h6 : k.length = 6
      · refine ⟨0, _, _, by decide, c_M_openN l (us q 5 i (nI j)) b i (by rw [← h6]; exact hq9), ?_⟩
        refine And.intro (fun h => ?_) (fun h => absurd rfl h)
        exact And.intro trivial ⟨by simp only [if_pos h6]; rfl, by simp only [if_pos h6]⟩
      · refine ⟨0, _, _, by decide, c_M_open l (us q 5 i (nI j)) b k.length i hq9 (by have := hs.2.1; omega), ?_⟩
        refine And.intro (fun h => absurd h (by decide)) (fun h => ?_)
        refine And.intro (in_nI (by omega) (by omega)) ?_
        rw [cl_nI (by omega)]
        refine And.intro trivial ⟨?_, by simp only [if_neg h6]⟩
        simp only [if_neg h6]
        exact congrArg (fun x => some (Value.int x)) (eu (nI j))
  have cd0 : ¬ chr t n i = 125 → ¬ (chr t n i = 33 ∨ chr t n i = 94) → (chr t n i = 63 ∨ chr t n i = 42) → XW l 4 q_M_part (fun u w => u = some (.int (oI res.1)) ∧ w = vM res.2.1 b) 99 [(0, .ref 0), (1, .int (nI i)), (2, .int (chr t n i))] [] (vM (us y 0 8 (y 0 8 + 1)) b) := by
    intro h0 h1 h2
    refine xw_go xcls ok_M_part 60 [(115, [0, 1])] ?_
    refine And.intro (fun h => ?_) (fun h => ?_)
    · exact cd 4 h0 h1 h2 (by rw [if_neg h])
    · exact cd 3 h0 h1 h2 (by rw [if_pos h])
  -- a write
  have wr2 : ∀ x : Int32, res = mWt (chr t n) y i k → lcP (chr t n i) → chr t n (mW1 (chr t n) i) = 61 → x = (if fdP (chr t n) (i + 1) then 2 else 1) → XW l 4 q_M_part (fun u w => u = some (.int (oI res.1)) ∧ w = vM res.2.1 b) 220 [(0, .ref 0), (1, .int (nI i)), (4, .int (nI (mW1 (chr t n) i)))] [.int x, .int (nI i), .ref 3] (vM (us y 0 8 (y 0 8 + 1)) b) := by
    intro x h0 h1 h2 hx
    subst hx
    have hw1 : mW1 (chr t n) i ≤ i + 3 := by unfold mW1; split <;> omega
    have e1 : ¬ (¬ lcP (chr t n i) ∨ ¬ chr t n (mW1 (chr t n) i) = 61) := fun c => c.elim (fun c => c h1) (fun c => c h2)
    rw [h0, mWt, if_neg e1]
    refine xw_go xcls ok_M_part 60 [] ?_
    refine And.intro (in_nI (by omega) (by omega)) ?_
    rw [cl_nI (by omega)]
    refine ⟨2, _, _, by decide, c_M_value l (us (us y 0 8 (y 0 8 + 1)) 3 i (if fdP (chr t n) (i + 1) then 2 else 1)) b (mW1 (chr t n) i + 1) hp (by omega) (nI_p1 _), ?_⟩
    refine And.intro (in_nI (by omega) (by omega)) ?_
    rw [cl_nI (by omega)]
    cases hv : mVal (chr t n) (mW1 (chr t n) i + 1) with
    | none =>
      refine And.intro (fun h => ?_) (fun h => absurd (by decide) h)
      exact And.intro trivial ⟨rfl, rfl⟩
    | some q =>
      have hq := mVal_le hv
      refine And.intro (fun h => absurd h (nI_n0 (by omega))) (fun h => ?_)
      rw [show oI (some q) + 1 = nI (q + 1) from nI_p1 q]
      refine ⟨0, _, _, by decide, c_M_at l (us (us (us y 0 8 (y 0 8 + 1)) 3 i (if fdP (chr t n) (i + 1) then 2 else 1)) 7 i (nI (q + 1))) b q hp (by omega), ?_⟩
      refine And.intro (fun h3 => ?_) (fun h3 => ?_)
      · exact And.intro trivial ⟨by simp only [if_neg h3]; rfl, rfl⟩
      · exact And.intro trivial ⟨by simp only [if_pos h3]; exact congrArg (fun x => some (Value.int x)) (nI_p1 q), rfl⟩
  have wr : ∀ (f : Int32) (e : Nat) (x : Int32), f = bI (fdP (chr t n) (i + 1)) → x = nI e → e = mW1 (chr t n) i → res = mWt (chr t n) y i k → XW l 4 q_M_part (fun u w => u = some (.int (oI res.1)) ∧ w = vM res.2.1 b) 183 [(0, .ref 0), (1, .int (nI i)), (3, .int f)] [.int x] (vM (us y 0 8 (y 0 8 + 1)) b) := by
    intro f e x hf hx he h0
    subst hx
    subst he
    have hw1 : mW1 (chr t n) i ≤ i + 3 := by unfold mW1; split <;> omega
    refine xw_go xcls ok_M_part 60 [(220, [0, 1, 4])] ?_
    refine ⟨1, _, _, by decide, c_M_isLocal l (us y 0 8 (y 0 8 + 1)) b i hp (by omega), ?_⟩
    by_cases q : lcP (chr t n i)
    · rw [show bI (lcP (chr t n i)) = 1 by rw [bI, if_pos q]]
      refine And.intro (fun c => absurd c (by decide)) (fun _ => ?_)
      refine ⟨0, _, _, by decide, c_M_at l (us y 0 8 (y 0 8 + 1)) b (mW1 (chr t n) i) hp (by omega), ?_⟩
      refine And.intro (fun h1 => ?_) (fun h1 => ?_)
      · by_cases q2 : fdP (chr t n) (i + 1)
        · rw [hf, show bI (fdP (chr t n) (i + 1)) = 1 by rw [bI, if_pos q2]]
          refine And.intro (fun c => absurd c (by decide)) (fun _ => ?_)
          exact wr2 2 h0 q h1 (by rw [if_pos q2])
        · rw [hf, show bI (fdP (chr t n) (i + 1)) = 0 by rw [bI, if_neg q2]]
          refine And.intro (fun _ => ?_) (fun c => absurd rfl c)
          exact wr2 1 h0 q h1 (by rw [if_neg q2])
      · rw [h0, mWt, if_pos (Or.inr h1)]
        exact And.intro trivial ⟨rfl, rfl⟩
    · rw [show bI (lcP (chr t n i)) = 0 by rw [bI, if_neg q]]
      refine And.intro (fun _ => ?_) (fun c => absurd rfl c)
      rw [h0, mWt, if_pos (Or.inl q)]
      exact And.intro trivial ⟨rfl, rfl⟩
  refine xw_go xcls ok_M_part 60 [(40, [0, 1, 2]), (99, [0, 1, 2]), (183, [0, 1, 3])] ?_
  refine ⟨0, _, _, by decide, c_M_at l y b i hp (by omega), ?_⟩
  refine And.intro (fun h0 => ?_) (fun h0 => ?_)
  · refine And.intro trivial ?_
    refine And.intro (fun h1 => sg0 h0 (Or.inl h1)) (fun h1 => ?_)
    refine And.intro (fun h2 => ?_) (fun h2 => sg0 h0 (Or.inr h2))
    have h12 : ¬ (chr t n i = 33 ∨ chr t n i = 94) := fun c => c.elim h1 h2
    refine And.intro (fun h3 => cd0 h0 h12 (Or.inl h3)) (fun h3 => ?_)
    refine And.intro (fun h4 => ?_) (fun h4 => cd0 h0 h12 (Or.inr h4))
    have h34 : ¬ (chr t n i = 63 ∨ chr t n i = 42) := fun c => c.elim h3 h4
    have er : res = mWt (chr t n) y i k := by rw [← hres, mPart, if_neg h0, if_neg h12, if_neg h34]
    refine ⟨1, _, _, by decide, c_M_isField l (us y 0 8 (y 0 8 + 1)) b (i + 1) hp (by omega) (nI_p1 i), ?_⟩
    by_cases q2 : fdP (chr t n) (i + 1)
    · rw [show bI (fdP (chr t n) (i + 1)) = 1 by rw [bI, if_pos q2]]
      refine And.intro (fun c => absurd c (by decide)) (fun _ => ?_)
      exact wr 1 (i + 3) _ (by rw [bI, if_pos q2]) (nI_p3 i) (by rw [mW1, if_pos q2]) er
    · rw [show bI (fdP (chr t n) (i + 1)) = 0 by rw [bI, if_neg q2]]
      refine And.intro (fun _ => ?_) (fun c => absurd rfl c)
      exact wr 0 (i + 1) _ (by rw [bI, if_neg q2]) (nI_p1 i) (by rw [mW1, if_neg q2]) er
  · refine ⟨1, _, _, by decide, c_M_close l y b i k hp hi hs, ?_⟩
    have er : res = mClose (chr t n) y i k := by rw [← hres, mPart, if_pos h0]
    exact And.intro trivial ⟨by rw [er], by rw [er]⟩
end
