/-! The pure part: the run, step by step -/
theorem find_lock {c : Nat → Int32} {i s : Nat} {m : MSt} (hv : ¬ fVal c i = -1) (hs : lcP (c i) → s = (c i - 97).toNatClampNeg) :
    ((mFd c i m).1 = none ∧ (mFd c i m).2 = m ∧ (mFind (fVal c i) s m (-1)).2 = (m, 1)) ∨ ∃ o, (mFd c i m).1 = some o ∧ mFind (fVal c i) s m (-1) = (o, (mFd c i m).2, -1) := by
  unfold mFd mFind
  rcases val_cases hv with ⟨a, b⟩ | ⟨a, b⟩ | ⟨a, b⟩ | ⟨a, b, d⟩ | ⟨a, b, d, e⟩ | ⟨a, b, d, e, e'⟩
  · right
    rw [b, a]
    exact ⟨none, rfl, rfl⟩
  · right
    rw [b, a]
    exact ⟨_, rfl, rfl⟩
  · right
    rw [b, a]
    exact ⟨_, rfl, rfl⟩
  · right
    have h78 : ¬ c i = 78 := fun w => lc_78 w a
    have h64 : ¬ c i = 64 := fun w => lc_64n w a
    rw [b, if_neg h78, if_neg h64, if_neg (fun w => w a), if_pos d, ← hs a]
    exact ⟨_, rfl, rfl⟩
  · have h78 : ¬ c i = 78 := fun w => lc_78 w a
    have h64 : ¬ c i = 64 := fun w => lc_64n w a
    rw [b, if_neg h78, if_neg h64, if_neg (fun w => w a), if_neg (fun w => w d), ← hs a]
    unfold mRead
    cases m.1 s with
    | none => exact Or.inl ⟨rfl, rfl, rfl⟩
    | some o =>
      right
      simp only [if_pos e]
      exact ⟨_, rfl, rfl⟩
  · have h78 : ¬ c i = 78 := fun w => lc_78 w a
    have h64 : ¬ c i = 64 := fun w => lc_64n w a
    rw [b, if_neg h78, if_neg h64, if_neg (fun w => w a), if_neg (fun w => w d), ← hs a]
    unfold mRead
    cases m.1 s with
    | none => exact Or.inl ⟨rfl, rfl, rfl⟩
    | some o =>
      right
      simp only [if_neg e']
      exact ⟨_, rfl, rfl⟩
theorem and1 (w : Int32) : w &&& 1 = 0 ↔ ¬ w &&& 1 = 1 := by
  constructor
  · intro h; rw [h]; decide
  · intro h
    have h0 : bt w 0 = false := by
      cases e : bt w 0
      · rfl
      · refine absurd (bt_ext fun i hi => ?_) h
        rw [bt_and, bt_1 i hi]
        by_cases h0 : i = 0
        · rw [h0, e]; rfl
        · simp [h0]
    apply bt_ext
    intro i hi
    rw [bt_and, bt_1 i hi, bt_0]
    by_cases e : i = 0
    · rw [e, h0]; rfl
    · simp [e]
theorem sol_hs (s : Nat → Int32) {j : Nat} (hj : j < 5) : hsP (mSol s 5) (nI j) ↔ ¬ s j = 0 := by
  rw [hs_bt _ hj, (pk_sol s 5 (Nat.le_refl _)).2 j hj]
  exact ⟨fun w => w.2, fun w => ⟨hj, w⟩⟩
theorem wr_lock {c : Nat → Int32} {z y : Sg} {p : Nat} {m : MSt} (hW : WrC c z y p) :
    mWr (z 4 p) (z 5 p) (mSol (y 2) 5) (loF z p) (soF z p) m = (if y 3 p = 1 then (if (mPt c (y 2) p m).2 = 0 then ((mPt c (y 2) p m).1, -1) else mPt c (y 2) p m) else (if (mKp c p m).2 = 0 then ((mKp c p m).1, -1) else mKp c p m)) := by
  obtain ⟨-, w2, w3, w4, w5, w6, w7, w8, w9⟩ := hW
  obtain ⟨j, hj, ej⟩ := lcP_nat w3
  have elo : loF z p = j := by unfold loF; rw [w5, ej, cl_nI (by omega)]
  have ecl : (c p - 97).toNatClampNeg = j := by rw [ej, cl_nI (by omega)]
  have eso : lcP (c (fBeh p (fPart c p) + 1)) → soF z p = (c (fBeh p (fPart c p) + 1) - 97).toNatClampNeg := fun h => by
    unfold soF; rw [w8, (lcI_lc h).1]
  have F := find_lock (m := m) w9 eso
  rw [w4, w6, w7, elo]
  rcases fPart_cases c p with ⟨h1, -⟩ | ⟨h1, -, h3⟩ | ⟨h1, -, h3, h4⟩ | ⟨h1, -, h3, h4⟩
  · exact absurd h1 w2
  · have e2 : fBeh p (fPart c p) + 1 = p + 2 := by rw [h1, fBeh_0]
    rw [e2] at F ⊢
    rw [if_pos h1, if_pos rfl]
    unfold mWr mPt
    rw [ecl]
    rcases F with ⟨a, b, d⟩ | ⟨o, a, b⟩
    · rw [a, d]
      simp only [b]
      rfl
    · rw [a, b]
      simp only [h1, if_true]
      unfold mWL
      have hb : (¬ bI (¬ (mSol (y 2) 5 >>> (nI j &&& 31)) &&& 1 = 0) = 0 ∧ o = none) ↔ (o = none ∧ ¬ y 2 j = 0) := by
        rw [bI_0, Classical.not_not, and1, Classical.not_not]
        rw [show ((mSol (y 2) 5 >>> (nI j &&& 31)) &&& 1 = 1) = hsP (mSol (y 2) 5) (nI j) from rfl, sol_hs (y 2) hj]
        exact And.comm
      by_cases hc : o = none ∧ ¬ y 2 j = 0
      · rw [if_pos hc, if_pos (hb.mpr hc)]; rfl
      · rw [if_neg hc, if_neg (fun w => hc (hb.mp w))]; rfl
  · have e2 : fBeh p (fPart c p) + 1 = p + 4 := by rw [h1, fBeh_1]
    have h5 : ¬ c (p + 2) = 104 := by rw [h4]; decide
    rw [e2] at F ⊢
    rw [h1, if_neg (by decide)]
    unfold mWr mKp
    rw [ecl]
    rcases F with ⟨a, b, d⟩ | ⟨o, a, b⟩
    · rw [a, d]
      simp only [b]
      rfl
    · rw [a, b]
      simp only [if_neg h5]
      cases (mFd c (p + 4) m).2.1 j with
      | none => rfl
      | some x =>
        cases o with
        | none => rfl
        | some o => rfl
  · have e2 : fBeh p (fPart c p) + 1 = p + 4 := by rw [h1, fBeh_2]
    rw [e2] at F ⊢
    rw [h1, if_neg (by decide)]
    unfold mWr mKp
    rw [ecl]
    rcases F with ⟨a, b, d⟩ | ⟨o, a, b⟩
    · rw [a, d]
      simp only [b]
      rfl
    · rw [a, b]
      simp only [if_pos h4]
      cases (mFd c (p + 4) m).2.1 j with
      | none => rfl
      | some x => rfl
theorem lc_val {c : Nat → Int32} {i : Nat} (h : lcP (c i)) : fVal c i = fPart c i := by
  unfold fVal
  rw [if_neg (fun w => lc_110 w h), if_neg (fun w => lc_78 w h), if_neg (fun w => lc_64n w h)]
theorem at_lock {c : Nat → Int32} {z : Sg} {p u v : Nat} {m : MSt} (hA : AtC c z p) :
    (mTrue (z 4 p) (loF z p) m).2 = (mCh c p u v m).2 ∧ ((mCh c p u v m).2.2 = -1 → (if (mTrue (z 4 p) (loF z p) m).1 then u else v) = (mCh c p u v m).1) ∧ ((mCh c p u v m).2.2 = -1 ∨ (mCh c p u v m).2.2 = 1) := by
  obtain ⟨-, hA⟩ := hA
  unfold mTrue mCh
  rcases hA with ⟨a1, a2⟩ | ⟨a1, a2, a3, a4, a5⟩
  · rw [a2, if_pos a1]
    refine ⟨rfl, fun _ => ?_, Or.inl rfl⟩
    simp only [if_true, decide_eq_true_eq]
  · have ev := lc_val a3
    have F := find_lock (c := c) (i := aNm c p) (s := loF z p) (m := m) (by rw [ev]; exact a2) (fun _ => by unfold loF; rw [a4])
    have h345 : ¬ fPart c (aNm c p) = 3 ∧ ¬ fPart c (aNm c p) = 4 ∧ ¬ fPart c (aNm c p) = 5 ∧ ¬ fPart c (aNm c p) = 6 := by
      rcases fPart_cases c (aNm c p) with ⟨h1, -⟩ | ⟨h1, -⟩ | ⟨h1, -⟩ | ⟨h1, -⟩ <;> rw [h1] <;> decide
    have eF : mFind (fVal c (aNm c p)) (loF z p) m (-1) = ((mRead (fPart c (aNm c p)) (loF z p) m (-1)).1, m, (mRead (fPart c (aNm c p)) (loF z p) m (-1)).2) := by
      unfold mFind; rw [ev, if_neg h345.1, if_neg h345.2.1, if_neg h345.2.2.1]
    rw [eF] at F
    rw [if_neg a1, a5, if_neg h345.2.2.2]
    rcases F with ⟨a, b, d⟩ | ⟨o, a, b⟩
    · rw [a]
      refine ⟨?_, fun w => absurd w (show ¬ (1 : Int32) = -1 by decide), Or.inr rfl⟩
      show (m, _) = ((mFd c (aNm c p) m).2, (1 : Int32))
      rw [b]; exact d
    · rw [a]
      have b1 := congrArg (fun w => w.1) b
      have b2 := congrArg (fun w => w.2) b
      simp only at b1 b2
      refine ⟨b2, fun _ => ?_, Or.inl rfl⟩
      show (if (mRead (fPart c (aNm c p)) (loF z p) m (-1)).1.isSome = true then u else v) = if o.isSome = true then u else v
      rw [b1]
section Run
variable {c : Nat → Int32} {n : Nat} {z y : Sg} {u v : Nat → Nat}
theorem vis_lock (T : Tab c n z y u v) {p : Nat} (hp : p ≤ n) (hr : 0 < y 3 p) (m : MSt) :
    (mVis z u v (loF z) (soF z) (mSol (y 2) 5) p m).2 = (mVm y c u u v p m).2 ∧
    ((mVm y c u u v p m).2.2 = -1 → (mVis z u v (loF z) (soF z) (mSol (y 2) 5) p m).1 = (mVm y c u u v p m).1 ∧ (mVm y c u u v p m).1 ≤ n ∧ 0 < y 3 (mVm y c u u v p m).1) ∧
    ((mVm y c u u v p m).2.2 = -1 ∨ (mVm y c u u v p m).2.2 = 0 ∨ (mVm y c u u v p m).2.2 = 1 ∨ (mVm y c u u v p m).2.2 = 2) := by
  obtain ⟨C, t1, t2, t3⟩ := T p hp
  have pos : ∀ q, q ≤ n → ¬ z 2 q = 0 → 0 < y 3 q := fun q h1 h2 => Classical.byContradiction fun w => h2 ((ct_0 (T q h1).1).mpr w)
  unfold mVis mVm
  rcases C with q | q | q | q | q | q | q
  · rw [q.2] at hr; exact absurd hr (by decide)
  · have hW := wr_lock (m := m) q
    obtain ⟨q1, q2, q3, q4, -⟩ := q
    have tt := t1 (Or.inl q1)
    rw [if_pos q1]
    by_cases h0 : fPart c p = 0
    · rw [if_pos h0] at q4
      rw [q4] at hW ⊢
      simp only [show ¬ (1 : Int32) = 8 from by decide, show ¬ (1 : Int32) = 6 from by decide, show ¬ (1 : Int32) = 5 from by decide, show ¬ (1 : Int32) = 7 from by decide, show ¬ (1 : Int32) = 3 from by decide, show ¬ (1 : Int32) = 4 from by decide, if_false, or_self, if_true] at hW ⊢
      rw [hW]
      have e := mPt_e (c := c) (so := y 2) (p := p) (m := m)
      by_cases h1 : (mPt c (y 2) p m).2 = 0
      · rw [if_pos h1, if_pos h1]
        exact ⟨rfl, fun _ => ⟨rfl, tt.2.1, pos _ tt.2.1 tt.2.2⟩, Or.inl rfl⟩
      · rw [if_neg h1, if_neg h1]
        refine ⟨rfl, fun w => ?_, Or.inr e⟩
        have w : (mPt c (y 2) p m).2 = -1 := w
        rw [w] at e; exact absurd e (by decide)
    · rw [if_neg h0] at q4
      rw [q4] at hW ⊢
      simp only [show ¬ (2 : Int32) = 8 from by decide, show ¬ (2 : Int32) = 6 from by decide, show ¬ (2 : Int32) = 5 from by decide, show ¬ (2 : Int32) = 7 from by decide, show ¬ (2 : Int32) = 3 from by decide, show ¬ (2 : Int32) = 4 from by decide, show ¬ (2 : Int32) = 1 from by decide, if_false, or_self] at hW ⊢
      rw [hW]
      have e := mKp_e (c := c) (p := p) (m := m)
      by_cases h1 : (mKp c p m).2 = 0
      · rw [if_pos h1, if_pos h1]
        exact ⟨rfl, fun _ => ⟨rfl, tt.2.1, pos _ tt.2.1 tt.2.2⟩, Or.inl rfl⟩
      · rw [if_neg h1, if_neg h1]
        refine ⟨rfl, fun w => ?_, Or.inr e⟩
        have w : (mKp c p m).2 = -1 := w
        rw [w] at e; exact absurd e (by decide)
  · have tt := t1 (Or.inr (Or.inl q.1))
    have eu := t3 q.1
    have h8 : ¬ (y 3 p = 8 ∨ y 3 p = 6) := by rcases q.2 with w | w <;> rw [w] <;> decide
    rw [if_neg h8, if_pos q.2, q.1]
    simp only [show ¬ (2 : Int32) = 1 from by decide, if_false, if_true]
    rw [← eu]
    exact ⟨trivial, fun _ => ⟨rfl, tt.2.1, pos _ tt.2.1 tt.2.2⟩, Or.inl trivial⟩
  · have tt := t1 (Or.inr (Or.inr (Or.inl q.1)))
    rw [q.1, q.2]
    simp only [show ¬ (3 : Int32) = 1 from by decide, show ¬ (3 : Int32) = 2 from by decide, show ¬ (5 : Int32) = 7 from by decide, show ¬ (5 : Int32) = 3 from by decide, show ¬ (5 : Int32) = 4 from by decide, show ¬ (5 : Int32) = 8 from by decide, show ¬ (5 : Int32) = 6 from by decide, if_false, or_self, if_true]
    exact ⟨trivial, fun _ => ⟨trivial, tt.2.1, pos _ tt.2.1 tt.2.2⟩, Or.inl trivial⟩
  · rw [q.1, q.2]
    simp only [show ¬ (4 : Int32) = 1 from by decide, show ¬ (4 : Int32) = 2 from by decide, show ¬ (4 : Int32) = 3 from by decide, show ¬ (4 : Int32) = 5 from by decide, if_false, or_true, if_true]
    exact ⟨trivial, (fun w => absurd w (by decide)), (by first | exact Or.inr (Or.inl trivial) | exact Or.inr (Or.inl rfl) | simp)⟩
  · have tu := t1 (Or.inr (Or.inr (Or.inr q.1.1)))
    have tv := t2 q.1.1
    obtain ⟨k1, k2, k3⟩ := at_lock (u := u p) (v := v p) (m := m) q.1
    rw [q.1.1, q.2.1]
    simp only [show ¬ (5 : Int32) = 1 from by decide, show ¬ (5 : Int32) = 2 from by decide, show ¬ (5 : Int32) = 3 from by decide, show ¬ (7 : Int32) = 8 from by decide, show ¬ (7 : Int32) = 6 from by decide, show ¬ (7 : Int32) = 3 from by decide, show ¬ (7 : Int32) = 4 from by decide, if_false, or_self, if_true]
    refine ⟨k1, fun w => ⟨k2 w, ?_⟩, k3.elim Or.inl (fun w => Or.inr (Or.inr (Or.inl w)))⟩
    rw [← k2 w]
    split
    · exact ⟨tu.2.1, pos _ tu.2.1 tu.2.2⟩
    · exact ⟨tv.2.1, pos _ tv.2.1 tv.2.2⟩
  · rw [q.1, q.2]
    simp only [show ¬ (6 : Int32) = 1 from by decide, show ¬ (6 : Int32) = 2 from by decide, show ¬ (6 : Int32) = 3 from by decide, show ¬ (6 : Int32) = 5 from by decide, if_false, true_or, if_true]
    exact ⟨trivial, (fun w => absurd w (by decide)), (by first | exact Or.inr (Or.inl trivial) | exact Or.inr (Or.inl rfl) | simp)⟩
theorem tab_mnx (T : Tab c n z y u v) : MNx y c n u u v := by
  intro p m hm hp hr
  obtain ⟨a, b, d⟩ := vis_lock T hp hr m
  refine ⟨?_, fun w => (b w).2, d⟩
  rw [← a]
  exact (mVis_inv z (tab_kn T) hm hp).1
theorem ans_eq (x e : Int32) : x - 1 - (-1 - e) = x + e := by grind
theorem run_lock (T : Tab c n z y u v) : ∀ (f k p : Nat) (m : MSt), p ≤ n → 0 < y 3 p →
    (mRun z u v (loF z) (soF z) (mSol (y 2) 5) f k p m).1 = (mRm y c u u v f k p m).1 ∧ (mRun z u v (loF z) (soF z) (mSol (y 2) 5) f k p m).2.1 = (mRm y c u u v f k p m).2.1 ∧ (mRun z u v (loF z) (soF z) (mSol (y 2) 5) f k p m).2.2.1 = (mRm y c u u v f k p m).2.2
  | 0, k, p, m, _, _ => ⟨rfl, rfl, rfl⟩
  | f + 1, k, p, m, hp, hr => by
    obtain ⟨a, b, -⟩ := vis_lock T hp hr m
    simp only [mRun, mRm]
    rw [a]
    by_cases h : (mVm y c u u v p m).2.2 = -1
    · obtain ⟨b1, b2, b3⟩ := b h
      rw [if_pos h, if_pos h, b1]
      exact run_lock T f (k + 1) _ _ b2 b3
    · rw [if_neg h, if_neg h]
      exact ⟨(ans_eq _ _).symm, rfl, rfl⟩
end Run
theorem hs_or (a b : Int32) {j : Nat} (hj : j < 5) : hsP (a ||| b) (nI j) ↔ hsP a (nI j) ∨ hsP b (nI j) := by
  rw [hs_bt _ hj, hs_bt _ hj, hs_bt _ hj, bt_or]; simp
/-- a run begins alike -/
theorem prep_lock (s : Nat → Int32) (st : Int32) (b : Int64) (m m' : MSt) (h1 : ∀ v, 5 ≤ v → m.1 v = m'.1 v) (h2 : m.2.1 = m'.2.1) (h3 : m.2.2.1 = m'.2.2.1) : mPrep (mSol s 5 ||| st) b m = mPr s st b m' := by
  unfold mPrep mPr
  rw [h2, h3]
  have e : mH0 (mSol s 5 ||| st) 5 m.1 = mR0 s st 5 m'.1 := by
    funext v
    unfold mH0 mR0
    by_cases hv : v < 5
    · rw [if_pos hv, if_pos hv]
      have hh : ((mSol s 5 ||| st) >>> (nI v &&& 31)) &&& 1 = 0 ↔ ¬ (¬ s v = 0 ∨ (st >>> (nI v &&& 31)) &&& 1 = 1) := by
        rw [and1]
        rw [show (((mSol s 5 ||| st) >>> (nI v &&& 31)) &&& 1 = 1) = hsP (mSol s 5 ||| st) (nI v) from rfl, hs_or _ _ hv, sol_hs s hv]
      by_cases w : ¬ s v = 0 ∨ (st >>> (nI v &&& 31)) &&& 1 = 1
      · rw [if_pos w, if_neg (fun q => hh.mp q w)]
      · rw [if_neg w, if_pos (hh.mpr w)]
    · rw [if_neg hv, if_neg hv]; exact h1 v (by omega)
  rw [e]
