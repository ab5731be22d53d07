/-! The reference: a visit, a run, what it leaves -/
def mVm (y : Sg) (c : Nat → Int32) (w u v : Nat → Nat) (p : Nat) (m : MSt) : Nat × MSt × Int32 :=
  if y 3 p = 8 ∨ y 3 p = 6 then (p, m, 0)
  else if y 3 p = 3 ∨ y 3 p = 4 then (p + 1, m, -1)
  else if y 3 p = 7 then mCh c p (u p) (v p) m
  else if y 3 p = 5 then (w p, mH (min (tkN 2 m.2.2.2.2) (m.2.2.2.1 - 1)) none (mTk 2 m), -1)
  else if y 3 p = 1 then (if (mPt c (y 2) p m).2 = 0 then (w p, (mPt c (y 2) p m).1, -1) else (p, mPt c (y 2) p m))
  else (if (mKp c p m).2 = 0 then (w p, (mKp c p m).1, -1) else (p, mKp c p m))
theorem mPt_e {c : Nat → Int32} {so : Nat → Int32} {p : Nat} {m : MSt} : (mPt c so p m).2 = 0 ∨ (mPt c so p m).2 = 1 ∨ (mPt c so p m).2 = 2 := by
  unfold mPt; split
  · exact Or.inr (Or.inl rfl)
  · split
    · exact Or.inr (Or.inr rfl)
    · exact Or.inl rfl
theorem mKp_e {c : Nat → Int32} {p : Nat} {m : MSt} : (mKp c p m).2 = 0 ∨ (mKp c p m).2 = 1 ∨ (mKp c p m).2 = 2 := by
  unfold mKp; split
  · exact Or.inr (Or.inl rfl)
  · split
    · exact Or.inr (Or.inl rfl)
    · split
      · exact Or.inl rfl
      · split
        · exact Or.inr (Or.inr rfl)
        · exact Or.inl rfl
section
variable (l : Launch) (y : Sg) (vs : Int32) {t : Nat → Int32} {n : Nat}
set_option maxRecDepth 100000 in
set_option maxHeartbeats 4000000 in
theorem c_M_visit (w u v : Nat → Nat) (hm : MPr y (chr t n) n w u v) (hs : ∀ p, p ≤ n → y 3 p = 2 → vp_in (chr t n p - 97) 5) (hp : MT y t n) (m : MSt) (hi : MInv m) (p : Nat) (hpn : p ≤ n) (hr : 0 < y 3 p) : XMet l 5 q_M_visit [.ref 0, .int (nI p)] (vR y m vs) (some (.int (vI (mVm y (chr t n) w u v p m)))) (vR y (mVm y (chr t n) w u v p m).2.1 vs) := by
  have hn := hp.2.1
  obtain ⟨m1, m2, m3, m4, k8, hk8, ek8⟩ := hm p hpn
  refine xm_intro (by decide +kernel) (Nat.le_of_ble_eq_true rfl) ?_
  generalize hres : mVm y (chr t n) w u v p m = res
  -- the end: how it ended, or on
  have j114 : ∀ (e : Int32) (m' : MSt), (y 3 p = 1 ∨ y 3 p = 2 ∨ y 3 p = 5) → (e = 0 ∨ e = 1 ∨ e = 2) → res = (if e = 0 then (w p, m', -1) else (p, m', e)) → XW l 5 q_M_visit (fun a x => a = some (.int (vI res)) ∧ x = vR y res.2.1 vs) 114 [(0, .ref 0), (1, .int (nI p)), (3, .int e)] [] (vR y m' vs) := by
    intro e m' hrr he er
    refine xw_go xcls ok_M_visit 60 [] ?_
    rcases he with rfl | rfl | rfl
    · rw [if_pos rfl] at er
      obtain ⟨z, e7, hgo, hw⟩ := m3 hrr
      refine And.intro (fun _ => ?_) (fun c => absurd (by decide) c)
      refine And.intro (in_nI (by omega) (by omega)) ?_
      rw [cl_nI (by omega)]
      refine ⟨0, _, _, by decide, c_M_goes l (sR y m' vs) m'.2.2.2.2 hn z (w p) hgo e7, ?_⟩
      rw [er]
      exact And.intro trivial ⟨rfl, rfl⟩
    · rw [if_neg (by decide)] at er
      refine And.intro (fun c => absurd c (by decide)) (fun _ => ?_)
      rw [er, vI_e (by decide)]
      exact And.intro trivial ⟨rfl, rfl⟩
    · rw [if_neg (by decide)] at er
      refine And.intro (fun c => absurd c (by decide)) (fun _ => ?_)
      rw [er, vI_e (by decide)]
      exact And.intro trivial ⟨rfl, rfl⟩
  have j19 : (y 3 p = 8 ∨ y 3 p = 6) → XW l 5 q_M_visit (fun a x => a = some (.int (vI res)) ∧ x = vR y res.2.1 vs) 19 [] [] (vR y m vs) := by
    intro h
    refine xw_go xcls ok_M_visit 60 [] ?_
    rw [← hres, mVm, if_pos h, vI_e (by decide)]
    exact And.intro trivial ⟨rfl, rfl⟩
  have j31 : ¬ (y 3 p = 8 ∨ y 3 p = 6) → (y 3 p = 3 ∨ y 3 p = 4) → XW l 5 q_M_visit (fun a x => a = some (.int (vI res)) ∧ x = vR y res.2.1 vs) 31 [(1, .int (nI p))] [] (vR y m vs) := by
    intro h0 h
    refine xw_go xcls ok_M_visit 60 [] ?_
    rw [← hres, mVm, if_neg h0, if_pos h]
    exact And.intro trivial ⟨congrArg (fun x => some (Value.int x)) (nI_p1 p), rfl⟩
  refine xw_go xcls ok_M_visit 60 [(19, []), (31, [1]), (114, [0, 1, 3]), (81, [0, 1, 3])] ?_
  refine And.intro (in_nI (by omega) (by omega)) ?_
  rw [cl_nI (by omega)]
  refine And.intro (fun h => j19 (Or.inl h)) (fun h8 => ?_)
  refine And.intro (fun h6 => ?_) (fun h => j19 (Or.inr h))
  have h86 : ¬ (y 3 p = 8 ∨ y 3 p = 6) := fun c => c.elim h8 h6
  refine And.intro (fun h => j31 h86 (Or.inl h)) (fun h3 => ?_)
  refine And.intro (fun h4 => ?_) (fun h => j31 h86 (Or.inr h))
  have h34 : ¬ (y 3 p = 3 ∨ y 3 p = 4) := fun c => c.elim h3 h4
  refine And.intro (fun h7 => ?_) (fun h7 => ?_)
  · have h7 : ¬ y 3 p = 7 := h7
    refine And.intro (fun h5 => ?_) (fun h5 => ?_)
    · have h5 : ¬ y 3 p = 5 := h5
      refine And.intro (fun h1 => ?_) (fun h1 => ?_)
      · have h1 : ¬ y 3 p = 1 := h1
        have h2 : y 3 p = 2 := by
          have h8 : ¬ y 3 p = 8 := h8
          have h6 : ¬ y 3 p = 6 := h6
          have h3 : ¬ y 3 p = 3 := h3
          have h4 : ¬ y 3 p = 4 := h4
          rw [ek8, show (7 : Int32) = nI 7 from rfl, nI_eq' (by omega) (by omega)] at h7
          rw [ek8, show (8 : Int32) = nI 8 from rfl, nI_eq' (by omega) (by omega)] at h8
          rw [ek8, show (6 : Int32) = nI 6 from rfl, nI_eq' (by omega) (by omega)] at h6
          rw [ek8, show (3 : Int32) = nI 3 from rfl, nI_eq' (by omega) (by omega)] at h3
          rw [ek8, show (4 : Int32) = nI 4 from rfl, nI_eq' (by omega) (by omega)] at h4
          rw [ek8, show (5 : Int32) = nI 5 from rfl, nI_eq' (by omega) (by omega)] at h5
          rw [ek8, show (1 : Int32) = nI 1 from rfl, nI_eq' (by omega) (by omega)] at h1
          rw [ek8, show (0 : Int32) = nI 0 from rfl, nI_lt' (by omega) (by omega)] at hr
          rw [ek8, show (2 : Int32) = nI 2 from rfl, nI_eq' (by omega) (by omega)]
          omega
        refine ⟨3, _, _, by decide, c_M_keep l y vs m hi hp p (by omega) (hs p hpn h2), ?_⟩
        exact j114 _ _ (Or.inr (Or.inl h2)) mKp_e (by rw [← hres, mVm, if_neg h86, if_neg h34, if_neg h7, if_neg h5, if_neg h1])
      · have h1 : y 3 p = 1 := h1
        refine ⟨3, _, _, by decide, c_M_put l y vs m hi hp p (by omega) (m4 h1), ?_⟩
        exact j114 _ _ (Or.inl h1) mPt_e (by rw [← hres, mVm, if_neg h86, if_neg h34, if_neg h7, if_neg h5, if_pos h1])
    · have h5 : y 3 p = 5 := h5
      have ht := tkN_2 m.2.2.2.2
      have i4 := hi.2.2.2.1
      have i5 := hi.2.2.2.2
      refine ⟨0, _, _, by decide, c_M_take l y vs m 2 (Or.inr rfl), ?_⟩
      have j81 : ∀ x : Int32, x = nI (min (tkN 2 m.2.2.2.2) (m.2.2.2.1 - 1)) → XW l 5 q_M_visit (fun a x => a = some (.int (vI res)) ∧ x = vR y res.2.1 vs) 81 [(0, .ref 0), (1, .int (nI p)), (3, .int 0)] [.int x] (vR y (mTk 2 m) vs) := by
        intro x hx
        subst hx
        have hmn : min (tkN 2 m.2.2.2.2) (m.2.2.2.1 - 1) < 8 := by have := Nat.min_le_right (tkN 2 m.2.2.2.2) (m.2.2.2.1 - 1); omega
        refine xw_go xcls ok_M_visit 60 [(114, [0, 1, 3])] ?_
        refine And.intro (in_nI hmn (by omega)) ?_
        rw [cl_nI (by omega)]
        have k := j114 0 (mH (min (tkN 2 m.2.2.2.2) (m.2.2.2.1 - 1)) none (mTk 2 m)) (Or.inr (Or.inr h5)) (Or.inl rfl) (by rw [← hres, mVm, if_neg h86, if_neg h34, if_neg h7, if_pos h5, if_pos rfl])
        rw [← w_rH y vs] at k
        exact k
      refine And.intro (fun c => ?_) (fun c => ?_)
      · have c : nI m.2.2.2.1 ≤ nI (tkN 2 m.2.2.2.2) := c
        rw [nI_le' (by omega) (by omega)] at c
        exact j81 _ (by show nI m.2.2.2.1 - nI 1 = _; rw [pk_sub i4, Nat.min_eq_right (by omega)])
      · have c : ¬ nI m.2.2.2.1 ≤ nI (tkN 2 m.2.2.2.2) := c
        rw [nI_le' (by omega) (by omega)] at c
        exact j81 _ (by rw [Nat.min_eq_left (by omega)])
  · have h7 : y 3 p = 7 := h7
    obtain ⟨t1, t0, hu, hv⟩ := m1 h7
    refine ⟨4, _, _, by decide, c_M_choose l y vs m hi hp p (u p) (v p) hpn t1 t0, ?_⟩
    have er : res = mCh (chr t n) p (u p) (v p) m := by rw [← hres, mVm, if_neg h86, if_neg h34, if_pos h7]
    rw [er]
    exact And.intro trivial ⟨rfl, rfl⟩
end
