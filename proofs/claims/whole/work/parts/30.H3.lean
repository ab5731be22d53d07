/-! Machine: a visit, the start, a run -/
/-- what the places name, in numbers -/
def RPr (z : Sg) (n : Nat) (lo so : Nat → Nat) : Prop := ∀ p, p ≤ n → (z 2 p = 1 → z 3 p = nI (lo p) ∧ lo p < 5 ∧ (¬ z 5 p = 3 → ¬ z 5 p = 4 → ¬ z 5 p = 5 → z 6 p = nI (so p) ∧ so p < 5)) ∧ (z 2 p = 5 → ¬ z 4 p = 6 → z 3 p = nI (lo p) ∧ lo p < 5)
/-- the ways stay in the text -/
def KN (z : Sg) (n : Nat) (u v : Nat → Nat) : Prop := ∀ p, p ≤ n → (z 2 p = 1 ∨ z 2 p = 2 ∨ z 2 p = 3 ∨ z 2 p = 5 → u p ≤ n) ∧ (z 2 p = 5 → v p ≤ n)
/-- the next place, what is left, how the run stands -/
def mVis (z : Sg) (u v lo so : Nat → Nat) (solid : Int32) (p : Nat) (m : MSt) : Nat × MSt × Int32 :=
  if z 2 p = 1 then (u p, mWr (z 4 p) (z 5 p) solid (lo p) (so p) m)
  else if z 2 p = 2 then (u p, m, -1)
  else if z 2 p = 3 then (u p, mH (min (tkN 2 m.2.2.2.2) (m.2.2.2.1 - 1)) none (mTk 2 m), -1)
  else if z 2 p = 5 then (if (mTrue (z 4 p) (lo p) m).1 then u p else v p, (mTrue (z 4 p) (lo p) m).2)
  else (p, m, 0)
section
variable (l : Launch) (z : Sg) (r : List va_E)
set_option maxRecDepth 100000 in
set_option maxHeartbeats 2000000 in
theorem c_H_visit (sc : Int32) (n : Nat) (u v lo so : Nat → Nat) (hk : KPr z n u v) (hr : RPr z n lo so) (hn : n ≤ 64) (m : MSt) (hm : MInv m) (p : Nat) (hp : p ≤ n) (solid : Int32) : XMet l 5 q_H_visit [.ref 16, .ref 0, .int (nI p), .int solid] (wM z m sc (-1) r) (some (.int (nI (mVis z u v lo so solid p m).1))) (wM z (mVis z u v lo so solid p m).2.1 sc (mVis z u v lo so solid p m).2.2 r) := by
  refine xm_intro (by decide +kernel) (Nat.le_of_ble_eq_true rfl) ?_
  obtain ⟨hk1, hk2⟩ := hk p hp
  obtain ⟨hr1, hr2⟩ := hr p hp
  refine xw_go xcls ok_H_visit 60 [] ?_
  refine And.intro (in_nI (by omega) (by omega)) ?_
  rw [cl_nI (by omega)]
  refine And.intro (fun h => ?_) (fun h1 => ?_)
  · have h : z 2 p = 1 := h
    obtain ⟨e1, e2⟩ := hk1 (Or.inl h)
    obtain ⟨f1, f2, f3⟩ := hr1 h
    rw [show mVis z u v lo so solid p m = (u p, mWr (z 4 p) (z 5 p) solid (lo p) (so p) m) by rw [mVis, if_pos h]]
    refine ⟨4, _, _, by decide, c_H_write l z r sc m hm p (by omega) solid (lo p) (so p) f1 f2 f3, ?_⟩
    refine And.intro (in_nI (by omega) (by omega)) ?_
    rw [cl_nI (by omega)]
    exact And.intro trivial ⟨congrArg (fun x => some (Value.int x)) e1, rfl⟩
  · have h1 : ¬ z 2 p = 1 := h1
    refine And.intro (fun h => ?_) (fun h2 => ?_)
    · have h : z 2 p = 2 := h
      obtain ⟨e1, e2⟩ := hk1 (Or.inr (Or.inl h))
      rw [show mVis z u v lo so solid p m = (u p, m, -1) by rw [mVis, if_neg h1, if_pos h]]
      refine And.intro (in_nI (by omega) (by omega)) ?_
      rw [cl_nI (by omega)]
      exact And.intro trivial ⟨congrArg (fun x => some (Value.int x)) e1, rfl⟩
    · have h2 : ¬ z 2 p = 2 := h2
      refine And.intro (fun h => ?_) (fun h3 => ?_)
      · have h : z 2 p = 3 := h
        obtain ⟨e1, e2⟩ := hk1 (Or.inr (Or.inr (Or.inl h)))
        rw [show mVis z u v lo so solid p m = (u p, mH (min (tkN 2 m.2.2.2.2) (m.2.2.2.1 - 1)) none (mTk 2 m), -1) by rw [mVis, if_neg h1, if_neg h2, if_pos h]]
        have h4 := tkN_2 m.2.2.2.2
        have h8 := hm.2.2.2.2
        refine ⟨0, _, _, by decide, c_H_takeBits l z r sc (-1) m 2 (Or.inr rfl), ?_⟩
        refine ⟨1, _, _, by decide, c_H_existing l z r sc (-1) (mTk 2 m) hm (tkN 2 m.2.2.2.2) (by omega), ?_⟩
        have hmn : min (tkN 2 m.2.2.2.2) (m.2.2.2.1 - 1) < 8 := by have := Nat.min_le_right (tkN 2 m.2.2.2.2) (m.2.2.2.1 - 1); omega
        refine And.intro (in_nI hmn (by omega)) ?_
        rw [show (nI (min (tkN 2 m.2.2.2.2) ((mTk 2 m).2.2.2.1 - 1))).toNatClampNeg = min (tkN 2 m.2.2.2.2) (m.2.2.2.1 - 1) from cl_nI (by omega)]
        refine And.intro (in_nI (by omega) (by omega)) ?_
        rw [cl_nI (by omega)]
        exact And.intro trivial ⟨congrArg (fun x => some (Value.int x)) e1, w_mH z r sc (m := mTk 2 m) (x := none)⟩
      · have h3 : ¬ z 2 p = 3 := h3
        refine And.intro (fun h => ?_) (fun h4 => ?_)
        · have h : z 2 p = 4 := h
          rw [show mVis z u v lo so solid p m = (p, m, 0) by rw [mVis, if_neg h1, if_neg h2, if_neg h3, if_neg (by rw [h]; decide)]]
          exact And.intro trivial (And.intro trivial ⟨rfl, rfl⟩)
        · refine And.intro (fun h => ?_) (fun h5 => ?_)
          · have h : z 2 p = 5 := h
            obtain ⟨e1, e2⟩ := hk1 (Or.inr (Or.inr (Or.inr h)))
            obtain ⟨e3, e4⟩ := hk2 h
            rw [show mVis z u v lo so solid p m = (if (mTrue (z 4 p) (lo p) m).1 then u p else v p, (mTrue (z 4 p) (lo p) m).2) by rw [mVis, if_neg h1, if_neg h2, if_neg h3, if_pos h]]
            refine And.intro (in_nI (by omega) (by omega)) ?_
            rw [cl_nI (by omega)]
            refine And.intro (in_nI (by omega) (by omega)) ?_
            rw [cl_nI (by omega)]
            refine ⟨1, _, _, by decide, c_H_isTrue l z r sc m hm (z 4 p) (z 3 p) (lo p) (hr2 h), ?_⟩
            cases hb : (mTrue (z 4 p) (lo p) m).1 with
            | true =>
              refine And.intro (fun q => absurd q (by decide)) (fun q => ?_)
              refine And.intro (in_nI (by omega) (by omega)) ?_
              rw [cl_nI (by omega)]
              exact And.intro trivial ⟨congrArg (fun x => some (Value.int x)) e1, rfl⟩
            | false =>
              refine And.intro (fun q => ?_) (fun q => absurd rfl q)
              refine And.intro (in_nI (by omega) (by omega)) ?_
              rw [cl_nI (by omega)]
              exact And.intro trivial ⟨congrArg (fun x => some (Value.int x)) e3, rfl⟩
          · have h5 : ¬ z 2 p = 5 := h5
            rw [show mVis z u v lo so solid p m = (p, m, 0) by rw [mVis, if_neg h1, if_neg h2, if_neg h3, if_neg h5]]
            exact And.intro trivial (And.intro trivial ⟨rfl, rfl⟩)
theorem mVis_inv {n : Nat} {u v lo so : Nat → Nat} {solid : Int32} {p : Nat} {m : MSt} (hkn : KN z n u v) (hm : MInv m) (hp : p ≤ n) : MInv (mVis z u v lo so solid p m).2.1 ∧ (mVis z u v lo so solid p m).1 ≤ n := by
  obtain ⟨k1, k2⟩ := hkn p hp
  unfold mVis; split
  · rename_i h
    exact ⟨mWr_inv hm, k1 (Or.inl h)⟩
  · split
    · rename_i h
      exact ⟨hm, k1 (Or.inr (Or.inl h))⟩
    · split
      · rename_i h
        refine ⟨?_, k1 (Or.inr (Or.inr (Or.inl h)))⟩
        obtain ⟨i1, i2, i3, i4, i5⟩ := hm
        refine ⟨i1, i2, fun w q hq => ?_, i4, i5⟩
        have hq : fu m.2.2.1 (min (tkN 2 m.2.2.2.2) (m.2.2.2.1 - 1)) none w = some q := hq
        unfold fu at hq; split at hq
        · cases hq
        · exact i3 w q hq
      · split
        · rename_i h
          refine ⟨?_, ?_⟩
          · show MInv (mTrue (z 4 p) (lo p) m).2.1
            unfold mTrue; split
            · exact hm
            · exact hm
          · show (if (mTrue (z 4 p) (lo p) m).1 then u p else v p) ≤ n
            split
            · exact k1 (Or.inr (Or.inr (Or.inr h)))
            · exact k2 h
        · exact ⟨hm, hp⟩
/-- what the names hold as a run begins -/
def mH0 (hold : Int32) (k : Nat) (f : Nat → Option Nat) : Nat → Option Nat := fun v => if v < k then (if (hold >>> (nI v &&& 31)) &&& 1 = 0 then none else some 0) else f v
theorem mH0_s {hold : Int32} {k : Nat} {f : Nat → Option Nat} : fu (mH0 hold k f) k (if (hold >>> (nI k &&& 31)) &&& 1 = 0 then none else some 0) = mH0 hold (k + 1) f := by
  funext j
  unfold fu mH0
  by_cases h : j = k
  · subst h; simp
  · have : j < k + 1 ↔ j < k := by omega
    simp [h, this]
def mSt (m : MSt) : MSt := (m.1, fu m.2.1 0 0, fu m.2.2.1 0 none, 1, m.2.2.2.2)
def mPrep (hold : Int32) (b : Int64) (m : MSt) : MSt := (mH0 hold 5 m.1, fu m.2.1 0 0, fu m.2.2.1 0 none, 1, b)
set_option maxRecDepth 100000 in
set_option maxHeartbeats 1000000 in
theorem lp_H_prepare (sc e : Int32) (hold : Int32) (b : Int64) (m : MSt) : ∀ (j k : Nat), k + j = 5 → XW l 1 q_H_prepare (fun u w => u = none ∧ w = wM z (mPrep hold b m) sc (-1) r) 14 [(0, .ref 16), (1, .int hold), (2, .long b), (4, .int (nI 0)), (5, .int (nI k))] [] (wM z (mH0 hold k m.1, (mSt m).2) sc e r)
  | 0, k, hk => by
    have hk : k = 5 := hk
    subst hk
    refine xw_go xcls ok_H_prepare 40 [] ?_
    refine And.intro (fun h => ?_) (fun h => absurd (by decide) h)
    exact And.intro trivial (And.intro trivial (And.intro rfl ⟨rfl, rfl⟩))
  | j + 1, k, hk => by
    have ih := lp_H_prepare sc e hold b m j (k + 1) (by omega)
    rw [← nI_p1] at ih
    refine xw_go xcls ok_H_prepare 40 [(14, [0, 1, 2, 4, 5])] ?_
    refine And.intro (fun h => absurd h (by rw [show (5 : Int32) = nI 5 from rfl, nI_le' (by omega) (by omega)]; omega)) (fun h => ?_)
    have e0 : ∀ x : Option Nat, x = (if (hold >>> (nI k &&& 31)) &&& 1 = 0 then none else some 0) → mLoc k x (mH0 hold k m.1, (mSt m).2) = (mH0 hold (k + 1) m.1, (mSt m).2) := by
      intro x hx
      show (fu (mH0 hold k m.1) k x, (mSt m).2) = _
      rw [hx, mH0_s]
    refine And.intro (fun h2 => ?_) (fun h2 => ?_)
    · refine And.intro (in_nI (by omega) (by omega)) ?_
      rw [cl_nI (by omega)]
      rw [← e0 none (by rw [if_pos h2]), ← w_mLoc z r sc] at ih
      exact ih
    · refine And.intro (in_nI (by omega) (by omega)) ?_
      rw [cl_nI (by omega)]
      rw [← e0 (some 0) (by rw [if_neg h2]), ← w_mLoc z r sc] at ih
      exact ih
set_option maxRecDepth 100000 in
set_option maxHeartbeats 1000000 in
theorem c_H_prepare (sc e : Int32) (hold : Int32) (b : Int64) (m : MSt) : XMet l 1 q_H_prepare [.ref 16, .int hold, .long b] (wM z m sc e r) none (wM z (mPrep hold b m) sc (-1) r) := by
  refine xm_intro (by decide +kernel) (Nat.le_of_ble_eq_true rfl) ?_
  refine xw_go xcls ok_H_prepare 40 [(14, [0, 1, 2, 4, 5])] ?_
  refine And.intro trivial ?_
  refine ⟨0, _, _, by decide, c_H_makeObject l z r sc e (m.1, m.2.1, m.2.2.1, 0, m.2.2.2.2) (by show 0 ≤ 8; omega), ?_⟩
  have h := lp_H_prepare l z r sc e hold b m 5 0 (by omega)
  rw [show mH0 hold 0 m.1 = m.1 from by funext v; simp [mH0]] at h
  exact h
/-- a run: the answer, what is left, how many steps, how it ended -/
def mRun (z : Sg) (u v lo so : Nat → Nat) (solid : Int32) : Nat → Nat → Nat → MSt → Int32 × MSt × Nat × Int32
  | 0, k, p, m => (4 * nI p + 3, m, k, -1)
  | f + 1, k, p, m => if (mVis z u v lo so solid p m).2.2 = -1 then mRun z u v lo so solid f (k + 1) (mVis z u v lo so solid p m).1 (mVis z u v lo so solid p m).2.1 else (4 * nI p + (mVis z u v lo so solid p m).2.2, (mVis z u v lo so solid p m).2.1, k, (mVis z u v lo so solid p m).2.2)
set_option maxRecDepth 100000 in
set_option maxHeartbeats 1000000 in
theorem lp_H_execute (n : Nat) (u v lo so : Nat → Nat) (hk : KPr z n u v) (hkn : KN z n u v) (hr : RPr z n lo so) (hn : n ≤ 64) (solid : Int32) : ∀ (f k p : Nat) (m : MSt), k + f = 200 → p ≤ n → MInv m →
    XW l 6 q_H_execute (fun a w => a = some (.int (mRun z u v lo so solid f k p m).1) ∧ w = wM z (mRun z u v lo so solid f k p m).2.1 (nI (mRun z u v lo so solid f k p m).2.2.1) (mRun z u v lo so solid f k p m).2.2.2 r) 17 [(0, .ref 16), (1, .ref 0), (2, .int solid), (6, .int (nI p))] [] (wM z m (nI k) (-1) r)
  | 0, k, p, m, hf, hp, hm => by
    have hf : k = 200 := hf
    subst hf
    refine xw_go xcls ok_H_execute 40 [] ?_
    refine And.intro (fun h => ?_) (fun h => absurd (show nI 200 ≥ 200 from by decide) h)
    exact And.intro trivial ⟨rfl, rfl⟩
  | f + 1, k, p, m, hf, hp, hm => by
    have hi := mVis_inv z (lo := lo) (so := so) (solid := solid) hkn hm hp
    refine xw_go xcls ok_H_execute 40 [(17, [0, 1, 2, 6])] ?_
    refine And.intro (fun h => ?_) (fun h => ?_)
    · have h : (200 : Int32) ≤ nI k := h
      rw [show (200 : Int32) = nI 200 from rfl, nI_le' (by omega) (by omega)] at h
      omega
    · refine ⟨5, _, _, by decide, c_H_visit l z r (nI k) n u v lo so hk hr hn m hm p hp solid, ?_⟩
      refine And.intro (fun h2 => ?_) (fun h2 => ?_)
      · have h2 : (mVis z u v lo so solid p m).2.2 = -1 := h2
        rw [show mRun z u v lo so solid (f + 1) k p m = mRun z u v lo so solid f (k + 1) (mVis z u v lo so solid p m).1 (mVis z u v lo so solid p m).2.1 by rw [mRun, if_pos h2]]
        refine And.intro trivial ?_
        have ih := lp_H_execute n u v lo so hk hkn hr hn solid f (k + 1) (mVis z u v lo so solid p m).1 (mVis z u v lo so solid p m).2.1 (by omega) hi.2 hi.1
        rw [show wM z (mVis z u v lo so solid p m).2.1 (nI (k + 1)) (-1) r = wM z (mVis z u v lo so solid p m).2.1 (nI k + 1) (mVis z u v lo so solid p m).2.2 r by rw [h2, nI_p1]] at ih
        exact ih
      · have h2 : ¬ (mVis z u v lo so solid p m).2.2 = -1 := h2
        rw [show mRun z u v lo so solid (f + 1) k p m = (4 * nI p + (mVis z u v lo so solid p m).2.2, (mVis z u v lo so solid p m).2.1, k, (mVis z u v lo so solid p m).2.2) by rw [mRun, if_neg h2]]
        exact And.intro trivial ⟨rfl, rfl⟩
/-- bounds that hold between runs, too -/
def MI0 (m : MSt) : Prop := (∀ v o, m.1 v = some o → o < 8) ∧ (∀ o, m.2.1 o < 8) ∧ (∀ o q, m.2.2.1 o = some q → q < 8) ∧ m.2.2.2.1 ≤ 8
theorem mPrep_inv {hold : Int32} {b : Int64} {m : MSt} (h : MI0 m) : MInv (mPrep hold b m) := by
  obtain ⟨i1, i2, i3, i4⟩ := h
  refine ⟨fun v o ho => ?_, fun o => ?_, fun o q hq => ?_, Nat.le_refl 1, by show 1 ≤ 8; decide⟩
  · have ho : mH0 hold 5 m.1 v = some o := ho
    unfold mH0 at ho; split at ho
    · split at ho
      · cases ho
      · cases ho; decide
    · exact i1 v o ho
  · show fu m.2.1 0 0 o < 8
    unfold fu; split
    · decide
    · exact i2 o
  · have hq : fu m.2.2.1 0 none o = some q := hq
    unfold fu at hq; split at hq
    · cases hq
    · exact i3 o q hq
set_option maxRecDepth 100000 in
set_option maxHeartbeats 1000000 in
theorem c_H_execute (n : Nat) (u v lo so : Nat → Nat) (hk : KPr z n u v) (hkn : KN z n u v) (hr : RPr z n lo so) (hn : n ≤ 64) (solid start : Int32) (b : Int64) (m : MSt) (hm : MI0 m) (sc e : Int32) : XMet l 6 q_H_execute [.ref 16, .ref 0, .int solid, .int start, .long b] (wM z m sc e r) (some (.int (mRun z u v lo so solid 200 0 0 (mPrep (solid ||| start) b m)).1)) (wM z (mRun z u v lo so solid 200 0 0 (mPrep (solid ||| start) b m)).2.1 (nI (mRun z u v lo so solid 200 0 0 (mPrep (solid ||| start) b m)).2.2.1) (mRun z u v lo so solid 200 0 0 (mPrep (solid ||| start) b m)).2.2.2 r) := by
  refine xm_intro (by decide +kernel) (Nat.le_of_ble_eq_true rfl) ?_
  refine xw_go xcls ok_H_execute 40 [(17, [0, 1, 2, 6])] ?_
  refine ⟨1, _, _, by decide, c_H_prepare l z r sc e (solid ||| start) b m, ?_⟩
  refine And.intro trivial ?_
  exact lp_H_execute l z r n u v lo so hk hkn hr hn solid 200 0 0 (mPrep (solid ||| start) b m) (by omega) (by omega) (mPrep_inv hm)
end
