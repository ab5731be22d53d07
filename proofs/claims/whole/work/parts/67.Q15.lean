/-! The pure part: the check, round by round -/
def AF (x : Int32) : Prop := x = 0 ∨ x = 1 ∨ x = 2 ∨ x = 3
theorem AF.o1 {x : Int32} (h : AF x) : AF (x ||| 1) := by rcases h with h | h | h | h <;> rw [h] <;> unfold AF <;> decide
theorem AF.o2 {x : Int32} (h : AF x) : AF (x ||| 2) := by rcases h with h | h | h | h <;> rw [h] <;> unfold AF <;> decide
theorem af_use {v : Int32} {q : KF} (h : AF q.2) : AF (cUse v q).2 := by
  unfold cUse
  show AF (if q.1 &&& sB v = 0 then q.2 ||| 1 else q.2)
  split
  · exact h.o1
  · exact h
theorem af_take {a b : Int32} {q : KF} (h : AF q.2) : AF (cTake a b q).2.2 := by
  unfold cTake
  split
  · exact h
  · split
    · exact af_use h
    · split
      · exact af_use h
      · split
        · exact h
        · split <;> exact h
theorem af_wr {a b d e so : Int32} {q : KF} (h : AF q.2) : AF (cWr a b d e so q).2 := by
  have t := af_take (a := d) (b := e) h
  have w := af_use (v := a) t
  unfold cWr
  split
  · unfold cWL
    show AF (if _ then _ else _)
    split
    · exact t.o2
    · exact t
  · split
    · unfold cWF
      split <;> exact w
    · split
      · exact w.o2
      · exact w
theorem af_at {a b : Int32} {q : KF} (h : AF q.2) : AF (cAt a b q).2.2 := by
  unfold cAt
  split
  · exact h
  · split
    · exact af_use h
    · split
      · exact af_use h
      · exact h
theorem af_wk {z : Sg} {u v : Nat → Nat} {so : Int32} {p : Nat} {sc : SC} : AF (cWk z u v so p sc).2.2 := by
  have h0 : AF ((sc.1 p, 0) : KF).2 := Or.inl rfl
  unfold cWk
  split
  · exact af_wr h0
  · split
    · exact h0
    · split
      · exact Or.inl rfl
      · split
        · exact af_at h0
        · exact h0
def Rel (z : Sg) (n : Nat) (s : CS) (D : MD) : Prop := SD (s.1, s.2.2.1) D ∧ (∀ p, p < 65 → s.2.1 p = D.2.2.2.1 p) ∧ RL z n s.1 ∧ (∀ p, p < 65 → AF (s.2.1 p) ∧ (n < p → s.2.1 p = 0))
section Rounds
variable {c : Nat → Int32} {n : Nat} {z y : Sg} {u v : Nat → Nat} {so : Int32}
theorem wk_lock (T : Tab c n z y u v) (hn : n ≤ 64) (hs : SolR so (y 2)) {sc : SC} {D : MD} (h : SD sc D) (hR : RL z n sc.1) {p : Nat} (hp : p ≤ n) (hr : ¬ D.1 p = 0) :
    SD (cWk z u v so p sc).1 (mWk y c u u v p D).1 ∧ (cWk z u v so p sc).2.2 = (mWk y c u u v p D).2.2.2 ∧ (mWk y c u u v p D).1.2.2.2.1 = D.2.2.2.1 ∧ RL z n (cWk z u v so p sc).1.1 ∧ MuR sc (cWk z u v so p sc).1 := by
  obtain ⟨C, t1, t2, t3⟩ := T p hp
  have hpk : PK (sc.1 p) (D.2.1 p) (D.2.2.1 p) := by
    rcases h.1 p (by omega) with ⟨a, _⟩ | ⟨_, b⟩
    · exact absurd a hr
    · exact b
  have hq : KQ (sc.1 p, 0) (D.2.1 p, D.2.2.1 p, 0) := ⟨hpk, rfl⟩
  have one : ∀ (x : Int32) (q : ML), u p ≤ n → ¬ z 2 (u p) = 0 → PK x q.1 q.2.1 → SD (cTo (u p) x sc) (mJn (u p) q D) ∧ (mJn (u p) q D).2.2.2.1 = D.2.2.2.1 ∧ RL z n (cTo (u p) x sc).1 ∧ MuR sc (cTo (u p) x sc) := by
    intro x q h1 h2 hx
    exact ⟨to_jn h (by omega) hx, rfl, to_rl hR h1 h2, to_mu h (by omega)⟩
  unfold cWk mWk
  rcases C with q | q | q | q | q | q | q
  · rw [q.1, q.2]
    simp only [show ¬ (0 : Int32) = 1 from by decide, show ¬ (0 : Int32) = 2 from by decide, show ¬ (0 : Int32) = 3 from by decide, show ¬ (0 : Int32) = 4 from by decide, show ¬ (0 : Int32) = 5 from by decide, show ¬ (0 : Int32) = 7 from by decide, if_false, or_self]
    exact ⟨h, trivial, trivial, hR, MuR.rfl' _⟩
  · have hW := kq_write q hs hq
    obtain ⟨q1, q2, q3, q4, -⟩ := q
    have tt := t1 (Or.inl q1)
    rw [if_pos q1]
    by_cases h0 : fPart c p = 0
    · rw [if_pos h0] at q4
      rw [q4] at hW ⊢
      simp only [show ¬ (1 : Int32) = 7 from by decide, show ¬ (1 : Int32) = 3 from by decide, show ¬ (1 : Int32) = 4 from by decide, if_false, or_self, if_true] at hW ⊢
      have o := one _ _ tt.2.1 tt.2.2 hW.1
      exact ⟨o.1, hW.2, o.2.1, o.2.2.1, o.2.2.2⟩
    · rw [if_neg h0] at q4
      rw [q4] at hW ⊢
      simp only [show ¬ (2 : Int32) = 7 from by decide, show ¬ (2 : Int32) = 3 from by decide, show ¬ (2 : Int32) = 4 from by decide, show ¬ (2 : Int32) = 1 from by decide, if_false, or_self, if_true] at hW ⊢
      have o := one _ _ tt.2.1 tt.2.2 hW.1
      exact ⟨o.1, hW.2, o.2.1, o.2.2.1, o.2.2.2⟩
  · have tt := t1 (Or.inr (Or.inl q.1))
    have eu := t3 q.1
    have h7 : ¬ y 3 p = 7 := by rcases q.2 with w | w <;> rw [w] <;> decide
    rw [if_neg h7, if_pos q.2, q.1]
    simp only [show ¬ (2 : Int32) = 1 from by decide, if_false, if_true]
    have o := one (sc.1 p) (D.2.1 p, D.2.2.1 p, 0) tt.2.1 tt.2.2 hpk
    rw [← eu]
    exact ⟨o.1, trivial, o.2.1, o.2.2.1, o.2.2.2⟩
  · have tt := t1 (Or.inr (Or.inr (Or.inl q.1)))
    rw [q.1, q.2]
    simp only [show ¬ (3 : Int32) = 1 from by decide, show ¬ (3 : Int32) = 2 from by decide, show ¬ (5 : Int32) = 7 from by decide, show ¬ (5 : Int32) = 3 from by decide, show ¬ (5 : Int32) = 4 from by decide, show ¬ (5 : Int32) = 1 from by decide, show ¬ (5 : Int32) = 2 from by decide, if_false, or_self, if_true]
    have o := one (sc.1 p &&& -993) (D.2.1 p, 0, 0) tt.2.1 tt.2.2 hpk.unl
    exact ⟨o.1, trivial, o.2.1, o.2.2.1, o.2.2.2⟩
  · rw [q.1, q.2]
    simp only [show ¬ (4 : Int32) = 1 from by decide, show ¬ (4 : Int32) = 2 from by decide, show ¬ (4 : Int32) = 3 from by decide, show ¬ (4 : Int32) = 5 from by decide, show ¬ (6 : Int32) = 7 from by decide, show ¬ (6 : Int32) = 3 from by decide, show ¬ (6 : Int32) = 4 from by decide, show ¬ (6 : Int32) = 1 from by decide, show ¬ (6 : Int32) = 2 from by decide, show ¬ (6 : Int32) = 5 from by decide, if_false, or_self]
    exact ⟨h, trivial, trivial, hR, MuR.rfl' _⟩
  · have tu := t1 (Or.inr (Or.inr (Or.inr q.1.1)))
    have tv := t2 q.1.1
    obtain ⟨k1, k2, k3⟩ := kq_atom q.1 q.2.2 hq
    rw [q.1.1, q.2.1]
    simp only [show ¬ (5 : Int32) = 1 from by decide, show ¬ (5 : Int32) = 2 from by decide, show ¬ (5 : Int32) = 3 from by decide, if_false, if_true]
    rw [cTo_comm]
    unfold mBr
    have j1 := to_jn h (show v p < 65 by omega) k1.1
    refine ⟨to_jn j1 (by omega) k2, k1.2.trans k3.symm, rfl, to_rl (to_rl hR tv.2.1 tv.2.2) tu.2.1 tu.2.2, (to_mu h (by omega)).tr (to_mu j1 (by omega))⟩
  · rw [q.1, q.2]
    simp only [show ¬ (6 : Int32) = 1 from by decide, show ¬ (6 : Int32) = 2 from by decide, show ¬ (6 : Int32) = 3 from by decide, show ¬ (6 : Int32) = 5 from by decide, show ¬ (8 : Int32) = 7 from by decide, show ¬ (8 : Int32) = 3 from by decide, show ¬ (8 : Int32) = 4 from by decide, show ¬ (8 : Int32) = 1 from by decide, show ¬ (8 : Int32) = 2 from by decide, show ¬ (8 : Int32) = 5 from by decide, if_false, or_self]
    exact ⟨h, trivial, trivial, hR, MuR.rfl' _⟩
theorem fl_lock (T : Tab c n z y u v) (hn : n ≤ 64) (hs : SolR so (y 2)) {s : CS} {d : DQ} (h : Rel z n s d.1) {p : Nat} (hp : p ≤ n) (hr : ¬ d.1.1 p = 0) :
    Rel z n (cFl z u v so p s) (mFl y c u u v p d).1 ∧ MuR (s.1, s.2.2.1) ((cFl z u v so p s).1, (cFl z u v so p s).2.2.1) := by
  obtain ⟨h1, h2, h3, h4⟩ := h
  obtain ⟨w1, w2, w3, w4, w5⟩ := wk_lock T hn hs h1 h3 hp hr
  refine ⟨⟨w1, fun p' hp' => ?_, w4, fun p' hp' => ?_⟩, w5⟩
  · show upd s.2.1 p _ p' = upd _ p _ p'
    by_cases e : p' = p
    · rw [e, upd_h, upd_h]; exact w2
    · rw [upd_o e, upd_o e, w3]; exact h2 p' hp'
  · show AF (upd s.2.1 p (cWk z u v so p (s.1, s.2.2.1)).2.2 p') ∧ (n < p' → upd s.2.1 p (cWk z u v so p (s.1, s.2.2.1)).2.2 p' = 0)
    by_cases e : p' = p
    · rw [e, upd_h]; exact ⟨af_wk, fun w => by omega⟩
    · rw [upd_o e]; exact h4 p' hp'
theorem in_lock (T : Tab c n z y u v) (hn : n ≤ 64) (hs : SolR so (y 2)) : ∀ (m p : Nat) (s : CS) (d : DQ), p + m = n + 1 → Rel z n s d.1 →
    Rel z n (cIn z u v so m p s) (mIn y c u u v m p d).1 ∧ MuR (s.1, s.2.2.1) ((cIn z u v so m p s).1, (cIn z u v so m p s).2.2.1)
  | 0, p, s, d, _, h => ⟨h, MuR.rfl' _⟩
  | m + 1, p, s, d, hpm, h => by
    simp only [cIn, mIn]
    have hp : p ≤ n := by omega
    rcases h.1.1 p (by omega) with ⟨a, b⟩ | ⟨a, b⟩
    · have b : s.1 p = -1 := b
      have hn1 : ¬ (¬ d.1.1 p = 0 ∧ 0 < y 3 p) := fun w => w.1 a
      rw [if_pos b, if_neg hn1]
      exact in_lock T hn hs m (p + 1) s d (by omega) h
    · have b1 : ¬ s.1 p = -1 := b.ne
      have hy : 0 < y 3 p := Classical.byContradiction fun w => (h.2.2.1 p (by omega) b1).2 ((ct_0 (T p hp).1).mpr w)
      rw [if_neg b1, if_pos ⟨a, hy⟩]
      obtain ⟨f1, f2⟩ := fl_lock T hn hs h hp a
      obtain ⟨g1, g2⟩ := in_lock T hn hs m (p + 1) _ _ (by omega) f1
      exact ⟨g1, f2.tr g2⟩
theorem out_lock (T : Tab c n z y u v) (hn : n ≤ 64) (hs : SolR so (y 2)) : ∀ (m m' : Nat) (s : CS) (d : DQ), mu s.1 65 < m → mu s.1 65 < m' → Rel z n s d.1 → Rel z n (cOut z u v so n m s) (mOut y c u u v n m' d).1 := by
  intro m
  induction m with
  | zero => intro m' s d h; exact absurd h (Nat.not_lt_zero _)
  | succ m ih =>
    intro m' s d h1 h2 h
    cases m' with
    | zero => exact absurd h2 (Nat.not_lt_zero _)
    | succ m' =>
      simp only [cOut, mOut]
      by_cases hc : s.2.2.1 = 0
      · rw [if_pos hc, if_pos (h.1.2.mp hc)]; exact h
      · rw [if_neg hc, if_neg (fun w => hc (h.1.2.mpr w))]
        have h0 : Rel z n (s.1, s.2.1, 0, s.2.2.2) (d0 d 0).1 := ⟨⟨h.1.1, Iff.rfl⟩, h.2.1, h.2.2.1, h.2.2.2⟩
        obtain ⟨g1, g2⟩ := in_lock T hn hs (n + 1) 0 (s.1, s.2.1, 0, s.2.2.2) (d0 d 0) (by omega) h0
        generalize cIn z u v so (n + 1) 0 (s.1, s.2.1, 0, s.2.2.2) = s' at g1 g2 ⊢
        generalize mIn y c u u v (n + 1) 0 (d0 d 0) = d' at g1 ⊢
        rcases g2.2 with e | e
        · have e : s'.2.2.1 = 0 := e
          have e1 : cOut z u v so n m s' = s' := by cases m with
            | zero => rfl
            | succ m => simp only [cOut, if_pos e]
          have e2 : mOut y c u u v n m' d' = d' := by cases m' with
            | zero => rfl
            | succ m' => simp only [mOut, if_pos (g1.1.2.mp e)]
          rw [e1, e2]; exact g1
        · have e : mu s'.1 65 < mu s.1 65 := e
          exact ih m' s' d' (by omega) (by omega) g1
end Rounds
theorem mu_le (S : Nat → Int32) : ∀ k, mu S k ≤ 11 * k
  | 0 => Nat.le_refl _
  | k + 1 => by
    have := mu_le S k
    have hw : wt (S k) ≤ 11 := by
      unfold wt; split
      · omega
      · have := pc_le (S k) 10; omega
    simp only [mu]; omega
theorem pk_sol (s : Nat → Int32) : ∀ k, k ≤ 5 → PK (mSol s k) (mSol s k) 0 ∧ ∀ j, j < 5 → (bt (mSol s k) j = true ↔ j < k ∧ ¬ s j = 0)
  | 0, _ => ⟨pk_0, fun j hj => by
    show bt 0 j = true ↔ _
    rw [bt_0]; exact ⟨(fun w => by cases w), (fun w => absurd w.1 (Nat.not_lt_zero _))⟩⟩
  | k + 1, hk => by
    obtain ⟨h1, h2⟩ := pk_sol s k (by omega)
    unfold mSol
    by_cases h : s k = 0
    · rw [if_pos h]
      refine ⟨h1, fun j hj => ?_⟩
      rw [h2 j hj]
      exact ⟨fun w => ⟨by omega, w.2⟩, fun w => ⟨Nat.lt_of_le_of_ne (by omega) (fun e => w.2 (e ▸ h)), w.2⟩⟩
    · rw [if_neg h]
      have e : sB (nI k) = sb (nI k) := rfl
      have w := h1.orS (show k < 5 by omega)
      rw [e] at w
      refine ⟨w, fun j hj => ?_⟩
      rw [bt_or, bt_sb k (by omega) j (by omega)]
      by_cases ej : j = k
      · subst ej; simp [h]
      · simp only [ej, decide_false, Bool.or_false]
        rw [h2 j hj]
        exact ⟨fun w => ⟨by omega, w.2⟩, fun w => ⟨by omega, w.2⟩⟩
theorem sol_r (s : Nat → Int32) : SolR (mSol s 5) s := by
  intro j hj
  obtain ⟨h1, h2⟩ := pk_sol s 5 (Nat.le_refl _)
  rw [h1.tS hj, hs_bt _ hj, h2 j hj]
  constructor
  · intro w; exact Classical.byContradiction fun e => w ⟨hj, e⟩
  · intro w q; exact q.2 w
theorem fFill_lt {N k p : Nat} {a : Nat → Int32} {x : Int32} (h : p < k) : fFill N a x k p = x := if_pos h
/-- the check: both ends alike -/
theorem std_lock {c : Nat → Int32} {n : Nat} {z y : Sg} {u v : Nat → Nat} (T : Tab c n z y u v) (hn : n ≤ 64) (h0 : 0 < y 3 0) (s : CS) (d : DQ) :
    Rel z n (kn z u v (mSol (y 2) 5) n s) (mStd y c u u v n d).1 := by
  unfold kn mStd
  have hz0 : ¬ z 2 0 = 0 := fun e => (ct_0 (T 0 (Nat.zero_le _)).1).mp e h0
  refine out_lock T hn (sol_r (y 2)) 716 1000 _ _ ?_ ?_ ?_
  · have := mu_le (upd (fFill 65 s.1 (-1) 65) 0 (mSol (y 2) 5)) 65
    show mu (upd (fFill 65 s.1 (-1) 65) 0 (mSol (y 2) 5)) 65 < 716
    omega
  · have := mu_le (upd (fFill 65 s.1 (-1) 65) 0 (mSol (y 2) 5)) 65
    show mu (upd (fFill 65 s.1 (-1) 65) 0 (mSol (y 2) 5)) 65 < 1000
    omega
  · unfold mS0 mJn d0
    refine ⟨⟨fun p hp => ?_, ?_⟩, fun p hp => ?_, fun p hp hs => ?_, fun p hp => ?_⟩
    · by_cases e : p = 0
      · subst e
        right
        simp only [upd_h]
        rw [fFill_lt (by decide)]
        exact ⟨by decide, by rw [if_pos rfl, if_pos rfl]; exact (pk_sol (y 2) 5 (Nat.le_refl _)).1⟩
      · left
        simp only [upd_o e]
        rw [fFill_lt hp, fFill_lt hp]; exact ⟨rfl, rfl⟩
    · exact Iff.rfl
    · show fFill 65 s.2.1 0 65 p = fFill 65 d.1.2.2.2.1 0 65 p
      rw [fFill_lt hp, fFill_lt hp]
    · by_cases e : p = 0
      · rw [e]; exact ⟨Nat.zero_le _, hz0⟩
      · have hs : ¬ upd (fFill 65 s.1 (-1) 65) 0 (mSol (y 2) 5) p = -1 := hs
        rw [upd_o e, fFill_lt hp] at hs
        exact absurd rfl hs
    · show AF (fFill 65 s.2.1 0 65 p) ∧ (n < p → fFill 65 s.2.1 0 65 p = 0)
      rw [fFill_lt hp]; exact ⟨Or.inl rfl, fun _ => rfl⟩
theorem al_eq {A B : Nat → Int32} {n : Nat} (h1 : ∀ p, p < 65 → A p = B p) (h2 : ∀ p, p < 65 → AF (A p) ∧ (n < p → A p = 0)) : ∀ k, k ≤ 65 → cAl A k = mAl B (min k (n + 1))
  | 0, _ => by rw [Nat.zero_min]; rfl
  | k + 1, hk => by
    have ih := al_eq h1 h2 k (by omega)
    obtain ⟨g1, g2⟩ := h2 k (by omega)
    simp only [cAl]
    by_cases hkn : k ≤ n
    · have e1 : min (k + 1) (n + 1) = k + 1 := by omega
      have e2 : min k (n + 1) = k := by omega
      rw [e1, ih, e2]
      simp only [mAl]
      rw [← h1 k (by omega)]
      rcases g1 with g | g | g | g <;> rw [g] <;> rfl
    · have e1 : min (k + 1) (n + 1) = n + 1 := by omega
      have e2 : min k (n + 1) = n + 1 := by omega
      rw [e1, ih, e2, if_pos (g2 (by omega))]; rfl
/-- what the questions about a checked text are answered -/
theorem rel_ans {z : Sg} {n : Nat} {s : CS} {D : MD} (hn : n ≤ 64) (h : Rel z n s D) : cAl s.2.1 65 = mAl D.2.2.2.1 (n + 1) ∧ ∀ p, p ≤ n → s.2.1 p = D.2.2.2.1 p ∧ ∀ j, j < 5 →
    (if s.1 p = -1 then (0 : Int32) else if s.1 p &&& sB (nI j) = 0 then 1 else 2) = (if D.1 p = 0 then 0 else if hsP (D.2.1 p) (nI j) then 2 else 1) ∧
    (if s.1 p = -1 then (0 : Int32) else if s.1 p &&& lB (nI j) = 0 then 0 else 1) = (if D.1 p = 0 then 0 else if hsP (D.2.2.1 p) (nI j) then 1 else 0) := by
  refine ⟨?_, fun p hp => ⟨h.2.1 p (by omega), fun j hj => ?_⟩⟩
  · have := al_eq h.2.1 h.2.2.2 65 (Nat.le_refl _)
    rw [show min 65 (n + 1) = n + 1 by omega] at this
    exact this
  · rcases h.1.1 p (by omega) with ⟨a, b⟩ | ⟨a, b⟩
    · have b : s.1 p = -1 := b
      rw [if_pos b, if_pos a, if_pos b, if_pos a]; exact ⟨rfl, rfl⟩
    · have b : PK (s.1 p) (D.2.1 p) (D.2.2.1 p) := b
      rw [if_neg b.ne, if_neg a, if_neg b.ne, if_neg a]
      constructor
      · by_cases w : hsP (D.2.1 p) (nI j)
        · rw [if_pos w, if_neg (fun e => (b.tS hj).mp e w)]
        · rw [if_neg w, if_pos ((b.tS hj).mpr w)]
      · by_cases w : hsP (D.2.2.1 p) (nI j)
        · rw [if_pos w, if_neg (fun e => (b.tL hj).mp e w)]
        · rw [if_neg w, if_pos ((b.tL hj).mpr w)]
