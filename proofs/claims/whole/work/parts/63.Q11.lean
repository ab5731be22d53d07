/-! The pure part: the first place counts -/
theorem mCd_lt {c : Nat → Int32} {h p : Nat} : ∀ (k : Nat) (y : Sg) (i : Nat), p < i → (mCd c h k y i).2 3 p = y 3 p
  | 0, y, i, _ => rfl
  | k + 1, y, i, hp => by
    simp only [mCd]
    cases e : mAtm c i with
    | none => rfl
    | some j =>
      have hj := (mAtm_le e).1
      have e1 : us (us y 3 i 7) 4 i (nI h) 3 p = y 3 p := by rw [us_p (by omega), us_p (by omega)]
      by_cases hs : c j = 38 ∨ c j = 124
      · simp only [if_pos hs]
        rw [mCd_lt k _ (j + 1) (by omega)]; exact e1
      · simp only [if_neg hs]; exact e1
theorem mPart_lt {t : Nat → Int32} {n i j : Nat} {y : Sg} {k : List Nat} (hn : n ≤ 64) (h : (mPart (chr t n) y i k).1 = some j) : i < j ∧ (∀ p, p < i → (mPart (chr t n) y i k).2.1 3 p = y 3 p) ∧ (¬ chr t n i = 125 → 0 < (mPart (chr t n) y i k).2.1 3 i) := by
  unfold mPart at h ⊢
  by_cases h5 : chr t n i = 125
  · rw [if_pos h5] at h ⊢
    cases k with
    | nil => cases h
    | cons a r =>
      unfold mClose at h ⊢
      have e0 : ∀ p, mCl1 y i a r.length 3 p = y 3 p := fun p => by unfold mCl1; rw [us_c (by decide), us_c (by decide), us_c (by decide)]
      by_cases hb : y 3 a = 3 ∧ y 6 a = 0 ∧ chr t n (i + 1) = 123
      · simp only [if_pos hb] at h ⊢
        have := Option.some.inj h
        refine ⟨by omega, fun p _ => ?_, fun q => absurd h5 q⟩
        rw [us_c (by decide), us_c (by decide), us_c (by decide), e0]
      · simp only [if_neg hb] at h ⊢
        have := Option.some.inj h
        exact ⟨by omega, fun p _ => e0 p, fun q => absurd h5 q⟩
  rw [if_neg h5] at h ⊢
  by_cases h1 : chr t n i = 33 ∨ chr t n i = 94
  · rw [if_pos h1] at h ⊢
    have h : (if chr t n (i + 1) = 59 then some (i + 2) else none) = some j := h
    by_cases h2 : chr t n (i + 1) = 59
    · rw [if_pos h2] at h
      have := Option.some.inj h
      refine ⟨by omega, fun p hp => ?_, fun _ => ?_⟩
      · show us (us (us y 0 8 (y 0 8 + 1)) 3 i _) 7 i (nI (i + 2)) 3 p = y 3 p
        rw [us_p (by omega), us_p (by omega), us_c (by decide)]
      · show 0 < us (us (us y 0 8 (y 0 8 + 1)) 3 i _) 7 i (nI (i + 2)) 3 i
        rw [us_c (by decide), us_hit]; split <;> decide
    · rw [if_neg h2] at h; cases h
  rw [if_neg h1] at h ⊢
  by_cases h2 : chr t n i = 63 ∨ chr t n i = 42
  · rw [if_pos h2] at h ⊢
    unfold mIf at h ⊢
    have b := mCd_b (t := t) (n := n) (p := i) hn 64 (us (us (us y 0 8 (y 0 8 + 1)) 3 i (if chr t n i = 63 then 3 else 4)) 6 i 0) (i + 1)
    have b3 : ∀ p, p < i + 1 → (mCd (chr t n) i 64 (us (us (us y 0 8 (y 0 8 + 1)) 3 i (if chr t n i = 63 then 3 else 4)) 6 i 0) (i + 1)).2 3 p = us (us (us y 0 8 (y 0 8 + 1)) 3 i (if chr t n i = 63 then 3 else 4)) 6 i 0 3 p := fun p hp => mCd_lt 64 _ (i + 1) hp
    generalize mCd (chr t n) i 64 (us (us (us y 0 8 (y 0 8 + 1)) 3 i (if chr t n i = 63 then 3 else 4)) 6 i 0) (i + 1) = M at h b b3 ⊢
    obtain ⟨M1, M2⟩ := M
    cases M1 with
    | none => cases h
    | some q =>
      have hq := (b q rfl).1
      by_cases h6 : k.length = 6
      · simp only [if_pos h6] at h; cases h
      · simp only [if_neg h6] at h ⊢
        have := Option.some.inj h
        refine ⟨by omega, fun p hp => ?_, fun _ => ?_⟩
        · rw [us_c (by decide), us_c (by decide), us_c (by decide)]
          refine (b3 p (by omega)).trans ?_
          rw [us_c (by decide), us_p (by omega), us_c (by decide)]
        · rw [us_c (by decide), us_c (by decide), us_c (by decide)]
          have e := b3 i (by omega)
          have e : M2 3 i = _ := e
          rw [e, us_c (by decide), us_hit]; split <;> decide
  rw [if_neg h2] at h ⊢
  unfold mWt at h ⊢
  by_cases h3 : ¬ lcP (chr t n i) ∨ ¬ chr t n (mW1 (chr t n) i) = 61
  · rw [if_pos h3] at h; cases h
  rw [if_neg h3] at h ⊢
  have hw : i < mW1 (chr t n) i := by unfold mW1; split <;> omega
  cases e : mVal (chr t n) (mW1 (chr t n) i + 1) with
  | none => simp only [e] at h; cases h
  | some q =>
    have hq := (mVal_le e).1
    simp only [e] at h ⊢
    have h : (if chr t n q = 59 then some (q + 1) else none) = some j := h
    by_cases h4 : chr t n q = 59
    · rw [if_pos h4] at h
      have := Option.some.inj h
      refine ⟨by omega, fun p hp => ?_, fun _ => ?_⟩
      · rw [us_c (by decide), us_p (by omega), us_c (by decide)]
      · rw [us_c (by decide), us_hit]; split <;> decide
    · rw [if_neg h4] at h; cases h
theorem mLoop_lt {t : Nat → Int32} {n p : Nat} (hn : n ≤ 64) : ∀ (m i : Nat) (y : Sg) (k : List Nat), p < i → (mLoop (chr t n) n m (some i) y k).1.isSome = true → (mLoop (chr t n) n m (some i) y k).2.1 3 p = y 3 p
  | 0, i, y, k, _, _ => rfl
  | m + 1, i, y, k, hp, hs => by
    by_cases hi : i < n
    · have e : mLoop (chr t n) n (m + 1) (some i) y k = mLoop (chr t n) n m (mPart (chr t n) y i k).1 (mPart (chr t n) y i k).2.1 (mPart (chr t n) y i k).2.2 := by simp only [mLoop, if_pos hi]
      rw [e] at hs ⊢
      cases hr : (mPart (chr t n) y i k).1 with
      | none =>
        rw [hr] at hs
        cases m with
        | zero => cases hs
        | succ m => simp only [mLoop] at hs; cases hs
      | some j =>
        have w := mPart_lt hn hr
        rw [hr] at hs
        rw [mLoop_lt hn m j _ _ (by omega) hs]
        exact w.2.1 p hp
    · have e : mLoop (chr t n) n (m + 1) (some i) y k = (some i, y, k) := by simp only [mLoop, if_neg hi]
      rw [e]
theorem role_0 {t : Nat → Int32} {n : Nat} {y : Sg} (hn : n ≤ 64) (h : mOk t n y) : 0 < yP t n y 3 0 := by
  unfold yP
  by_cases h0 : n = 0
  · rw [h0, us_hit]; decide
  · rw [us_p (by omega)]
    have hs := h.1
    have hi : 0 < n := by omega
    have e : mPar t n y = mLoop (chr t n) n 64 (mPart (chr t n) (y0 y) 0 []).1 (mPart (chr t n) (y0 y) 0 []).2.1 (mPart (chr t n) (y0 y) 0 []).2.2 := by
      unfold mPar; simp only [mLoop, if_pos hi]
    rw [e] at hs ⊢
    cases hr : (mPart (chr t n) (y0 y) 0 []).1 with
    | none => rw [hr] at hs; simp only [mLoop] at hs; cases hs
    | some j =>
      have w := mPart_lt hn hr
      rw [hr] at hs
      rw [mLoop_lt hn 64 j _ _ (by omega) hs]
      refine w.2.2 (fun q => ?_)
      unfold mPart at hr
      rw [if_pos q] at hr
      cases hr
