/-! The reference: the whole text -/
theorem mPart_MT {t : Nat → Int32} {n : Nat} {y : Sg} {i : Nat} {k : List Nat} (hp : MT y t n) : MT (mPart (chr t n) y i k).2.1 t n := by
  unfold mPart; split
  · cases k with
    | nil => exact hp
    | cons h k =>
      simp only [mClose]; split
      · exact hp
      · exact hp
  · split
    · exact hp
    · split
      · unfold mIf
        have h0 : (mCd (chr t n) i 64 (us (us (us y 0 8 (y 0 8 + 1)) 3 i (if chr t n i = 63 then 3 else 4)) 6 i 0) (i + 1)).2 0 = (us y 0 8 (y 0 8 + 1)) 0 := by rw [mCd_n (by decide) (by decide)]; rfl
        have h1 : (mCd (chr t n) i 64 (us (us (us y 0 8 (y 0 8 + 1)) 3 i (if chr t n i = 63 then 3 else 4)) 6 i 0) (i + 1)).2 1 = y 1 := by rw [mCd_n (by decide) (by decide)]; rfl
        generalize mCd (chr t n) i 64 (us (us (us y 0 8 (y 0 8 + 1)) 3 i (if chr t n i = 63 then 3 else 4)) 6 i 0) (i + 1) = q at h0 h1 ⊢
        have e0 : q.2 0 1 = y 0 1 := congrFun h0 1
        split
        · exact MT_c hp e0 h1
        · split
          · exact MT_c hp e0 h1
          · exact MT_c hp e0 h1
      · unfold mWt; split
        · exact hp
        · split
          · exact hp
          · exact hp
theorem mPart_ok {t : Nat → Int32} {n : Nat} {y : Sg} {i j : Nat} {k : List Nat} (hp : MT y t n) (hi : i < 64) (hs : MStk y k) (h : (mPart (chr t n) y i k).1 = some j) : MStk (mPart (chr t n) y i k).2.1 (mPart (chr t n) y i k).2.2 ∧ j < 900 ∧ i < j := by
  have hn := hp.2.1
  obtain ⟨hd, hd6, hR⟩ := hs
  unfold mPart at h ⊢
  split
  · rename_i hc
    rw [if_pos hc] at h
    cases k with
    | nil => cases h
    | cons hh k =>
      obtain ⟨h8, h65, hR⟩ := hR
      have hk : k.length + 1 ≤ 6 := hd6
      simp only [mClose] at h ⊢
      split at h
      · rename_i hc2
        rw [if_pos hc2]
        have h : i + 2 = j := Option.some.inj h
        refine ⟨⟨?_, hd6, ?_, h65, RBk_c (y := y) k (fun q hq => ?_) hR⟩, by omega, by omega⟩
        · rfl
        · show upd (y 8) k.length (nI hh) k.length = nI hh
          rw [pk_us]
        · show upd (y 8) k.length (nI hh) q = y 8 q
          rw [pk_un (by omega)]
      · rename_i hc2
        rw [if_neg hc2]
        have h : i + 1 = j := Option.some.inj h
        refine ⟨⟨?_, Nat.le_of_succ_le hk, RBk_c (y := y) k (fun q hq => rfl) hR⟩, by omega, by omega⟩
        show upd (y 0) 9 (nI k.length) 9 = nI k.length
        rw [pk_us]
  · rename_i hc
    rw [if_neg hc] at h
    split
    · rename_i hc2
      rw [if_pos hc2] at h
      have h : (if chr t n (i + 1) = 59 then some (i + 2) else none) = some j := h
      split at h
      · have h := Option.some.inj h
        exact ⟨⟨hd, hd6, RBk_c (y := y) k (fun q hq => rfl) hR⟩, by omega, by omega⟩
      · cases h
    · rename_i hc2
      rw [if_neg hc2] at h
      split
      · rename_i hc3
        rw [if_pos hc3] at h
        unfold mIf at h ⊢
        have hb2 := mCd_b (t := t) (p := i) hn 64 (us (us (us y 0 8 (y 0 8 + 1)) 3 i (if chr t n i = 63 then 3 else 4)) 6 i 0) (i + 1)
        have h8 : (mCd (chr t n) i 64 (us (us (us y 0 8 (y 0 8 + 1)) 3 i (if chr t n i = 63 then 3 else 4)) 6 i 0) (i + 1)).2 8 = y 8 := by rw [mCd_n (by decide) (by decide)]; rfl
        generalize mCd (chr t n) i 64 (us (us (us y 0 8 (y 0 8 + 1)) 3 i (if chr t n i = 63 then 3 else 4)) 6 i 0) (i + 1) = q at h h8 hb2 ⊢
        obtain ⟨o, q⟩ := q
        cases o with
        | none => cases h
        | some p =>
          have hp2 := hb2 p rfl
          simp only at h ⊢
          split at h
          · cases h
          · rename_i h6
            rw [if_neg h6]
            have h : p = j := Option.some.inj h
            refine ⟨⟨?_, ?_, ?_, by omega, RBk_c (y := y) k (fun m hm => ?_) hR⟩, by omega, by omega⟩
            · show upd (q 0) 9 (nI (k.length + 1)) 9 = nI (k.length + 1)
              rw [pk_us]
            · show k.length + 1 ≤ 6
              omega
            · show upd (q 8) k.length (nI i) k.length = nI i
              rw [pk_us]
            · show upd (q 8) k.length (nI i) m = y 8 m
              rw [pk_un (by omega)]; exact congrFun h8 m
      · rename_i hc3
        rw [if_neg hc3] at h
        unfold mWt at h ⊢
        have hw1 : i < mW1 (chr t n) i ∧ mW1 (chr t n) i ≤ i + 3 := by unfold mW1; split <;> omega
        split at h
        · cases h
        · rename_i hc4
          rw [if_neg hc4]
          cases hv : mVal (chr t n) (mW1 (chr t n) i + 1) with
          | none => rw [hv] at h; cases h
          | some q =>
            rw [hv] at h
            have hq := mVal_le hv
            have h : (if chr t n q = 59 then some (q + 1) else none) = some j := h
            split at h
            · have h := Option.some.inj h
              exact ⟨⟨hd, hd6, RBk_c (y := y) k (fun q hq => rfl) hR⟩, by omega, by omega⟩
            · cases h
def mLoop (c : Nat → Int32) (n : Nat) : Nat → Option Nat → Sg → List Nat → Option Nat × Sg × List Nat
  | 0, o, y, k => (o, y, k)
  | _ + 1, none, y, k => (none, y, k)
  | m + 1, some i, y, k => if i < n then mLoop c n m (mPart c y i k).1 (mPart c y i k).2.1 (mPart c y i k).2.2 else (some i, y, k)
section
variable (l : Launch) (b : Int64) {t : Nat → Int32} {n : Nat}
set_option maxRecDepth 100000 in
set_option maxHeartbeats 1000000 in
theorem lp_M_program (Rt : Option Value → List va_E → Prop) : ∀ (m : Nat) (o : Option Nat) (y : Sg) (k : List Nat), MT y t n → m ≤ 65 → (∀ i, o = some i → i < 900 ∧ MStk y k) →
    (∀ (i : Option Nat) (y' : Sg) (k' : List Nat), (i, y', k') = mLoop (chr t n) n m o y k → MT y' t n → (∀ j, i = some j → j < 900 ∧ MStk y' k') → XW l 5 q_M_program Rt 65 [(0, .ref 0), (1, .int (oI i))] [] (vM y' b)) →
    XW l 5 q_M_program Rt 35 [(0, .ref 0), (1, .int (oI o)), (2, .int (nI (65 - m)))] [] (vM y b)
  | 0, o, y, k, hp, hm, hs, K => by
    refine xw_go xcls ok_M_program 60 [(65, [0, 1])] ?_
    refine And.intro (fun h => ?_) (fun h => absurd (by decide) h)
    exact K o y k rfl hp hs
  | m + 1, o, y, k, hp, hm, hs, K => by
    have hn := hp.2.1
    refine xw_go xcls ok_M_program 80 [(65, [0, 1]), (35, [0, 1, 2])] ?_
    refine And.intro (fun h => absurd h (by rw [show (65 : Int32) = nI 65 from rfl, nI_le' (by omega) (by omega)]; omega)) (fun h => ?_)
    refine And.intro (fun h2 => ?_) (fun h2 => ?_)
    · cases o with
      | none => exact K none y k rfl hp hs
      | some i => exact absurd h2 (nI_n0 (by have := (hs i rfl).1; omega))
    · cases o with
      | none => exact absurd (by decide) h2
      | some i =>
        obtain ⟨hi, hst⟩ := hs i rfl
        have e64 : nI (65 - (m + 1)) + 1 = nI (65 - m) := by rw [nI_p1]; congr 1; omega
        refine And.intro (fun h3 => ?_) (fun h3 => ?_)
        · have h3 : y 0 1 ≤ nI i := h3
          rw [hp.1, nI_le' (by omega) (by omega)] at h3
          exact K (some i) y k (by simp [mLoop, Nat.not_lt.mpr h3]) hp hs
        · have h3 : ¬ y 0 1 ≤ nI i := h3
          rw [hp.1, nI_le' (by omega) (by omega)] at h3
          have h3 : i < n := Nat.not_le.mp h3
          refine ⟨4, _, _, by decide, c_M_part l y b i k hp (by omega) hst, ?_⟩
          have ih := lp_M_program Rt m (mPart (chr t n) y i k).1 (mPart (chr t n) y i k).2.1 (mPart (chr t n) y i k).2.2 (mPart_MT hp) (by omega) (fun j hj => by have := mPart_ok hp (by omega) hst hj; exact ⟨this.2.1, this.1⟩) (fun i' y' k' e => K i' y' k' (by rw [e]; simp [mLoop, h3]))
          rw [← e64] at ih
          exact ih
def y0 (y : Sg) : Sg := us (us (uc y 3 (fFill 65 (y 3) 0 65)) 0 8 0) 0 9 0
def mPar (t : Nat → Int32) (n : Nat) (y : Sg) : Option Nat × Sg × List Nat := mLoop (chr t n) n 65 (some 0) (y0 y) []
def mOk (t : Nat → Int32) (n : Nat) (y : Sg) : Prop := (mPar t n y).1.isSome = true ∧ (mPar t n y).2.2 = []
set_option maxRecDepth 100000 in
set_option maxHeartbeats 1000000 in
theorem lp_M_role (y : Sg) (Rt : Option Value → List va_E → Prop) (K : XW l 5 q_M_program Rt 21 [(0, .ref 0)] [] (vM (uc y 3 (fFill 65 (y 3) 0 65)) b)) : ∀ (m k : Nat), k + m = 65 → XW l 5 q_M_program Rt 2 [(0, .ref 0), (1, .int (nI k))] [] (vM (uc y 3 (fFill 65 (y 3) 0 k)) b)
  | 0, k, hk => by
    have hk : k = 65 := hk
    subst hk
    refine xw_go xcls ok_M_program 40 [(21, [0])] ?_
    refine And.intro (fun h => ?_) (fun h => absurd (by decide) h)
    exact K
  | m + 1, k, hk => by
    have ih := lp_M_role y Rt K m (k + 1) (by omega)
    rw [← nI_p1 k, ← fFill_s] at ih
    refine xw_go xcls ok_M_program 40 [(21, [0]), (2, [0, 1])] ?_
    refine And.intro (fun h => absurd h (by rw [show (65 : Int32) = nI 65 from rfl, nI_le' (by omega) (by omega)]; omega)) (fun h => ?_)
    refine And.intro (in_nI (by omega) (by omega)) ?_
    rw [cl_nI (by omega)]
    exact ih
set_option maxRecDepth 100000 in
set_option maxHeartbeats 1000000 in
theorem c_M_program (y : Sg) (hp : MT y t n) : (mOk t n y → XMet l 5 q_M_program [.ref 0] (vM y b) (some (.int 1)) (vM (us (mPar t n y).2.1 3 n 8) b)) ∧ (¬ mOk t n y → XMet l 5 q_M_program [.ref 0] (vM y b) (some (.int 0)) (vM (mPar t n y).2.1 b)) := by
  have hn := hp.2.1
  have key : ∀ (v : Int32) (yy : Sg), (mOk t n y → v = 1 ∧ yy = us (mPar t n y).2.1 3 n 8) → (¬ mOk t n y → v = 0 ∧ yy = (mPar t n y).2.1) → XMet l 5 q_M_program [.ref 0] (vM y b) (some (.int v)) (vM yy b) := by
    intro v yy k1 k2
    refine xm_intro (by decide +kernel) (Nat.le_of_ble_eq_true rfl) ?_
    refine xw_go xcls ok_M_program 60 [(2, [0, 1])] ?_
    have hr := lp_M_role l b y (fun a c => a = some (.int v) ∧ c = vM yy b) ?_ 65 0 (by omega)
    · rw [show uc y 3 (fFill 65 (y 3) 0 0) = y from by
        funext a
        by_cases h : a = 3
        · subst h; rw [uc_s]; funext i; simp [fFill]
        · rw [uc_n h]] at hr
      exact hr
    · refine xw_go xcls ok_M_program 60 [(35, [0, 1, 2])] ?_
      refine And.intro trivial ?_
      refine And.intro trivial ?_
      refine lp_M_program l b _ 65 (some 0) (y0 y) [] hp (by omega) (fun i hi => by cases hi; exact ⟨by omega, rfl, by decide, trivial⟩) (fun i y' k' e hp' hs' => ?_)
      have e : (i, y', k') = mPar t n y := e
      unfold mOk at k1 k2
      rw [← e] at k1 k2
      refine xw_go xcls ok_M_program 60 [] ?_
      cases i with
      | none =>
        refine And.intro (fun _ => ?_) (fun c => absurd (by decide) c)
        obtain ⟨rfl, rfl⟩ := k2 (fun c => by cases c.1)
        exact And.intro (Or.inl rfl) ⟨rfl, rfl⟩
      | some j =>
        obtain ⟨hj, hst⟩ := hs' j rfl
        refine And.intro (fun c => absurd c (nI_n0 (by omega))) (fun _ => ?_)
        have e9 : y' 0 9 = nI k'.length := hst.1
        have l6 := hst.2.1
        refine And.intro (fun c => ?_) (fun c => ?_)
        · have c : y' 0 9 ≤ 0 := c
          rw [e9, show (0 : Int32) = nI 0 from rfl, nI_le' (by omega) (by omega)] at c
          have hk : k' = [] := List.length_eq_zero_iff.mp (by omega)
          obtain ⟨rfl, rfl⟩ := k1 ⟨rfl, hk⟩
          have ez : y' 0 1 = nI n := hp'.1
          refine And.intro (by show vp_in (y' 0 1) 65; rw [ez]; exact in_nI (by omega) (by omega)) ?_
          rw [show (y' 0 1).toNatClampNeg = n by rw [ez, cl_nI (by omega)]]
          exact And.intro (Or.inr rfl) ⟨rfl, rfl⟩
        · have c : ¬ y' 0 9 ≤ 0 := c
          rw [e9, show (0 : Int32) = nI 0 from rfl, nI_le' (by omega) (by omega)] at c
          obtain ⟨rfl, rfl⟩ := k2 (fun q => c (by rw [show k' = [] from q.2]; exact Nat.le_refl 0))
          exact And.intro (Or.inl rfl) ⟨rfl, rfl⟩
  exact ⟨fun h => key 1 _ (fun _ => ⟨rfl, rfl⟩) (fun c => absurd h c), fun h => key 0 _ (fun c => absurd c h) (fun _ => ⟨rfl, rfl⟩)⟩
end
