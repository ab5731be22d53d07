/-! The reference: flow, study -/
abbrev DQ : Type := MD × ML
/-- where the ways go: w behind a statement; u, v from an atom -/
def MPr (y : Sg) (c : Nat → Int32) (n : Nat) (w u v : Nat → Nat) : Prop := ∀ p, p ≤ n →
  (y 3 p = 7 → Tr c (y 3) (y 4) (y 5) (y 6) (y 7) n p (decide (¬ c p = 126)) (u p) ∧ Tr c (y 3) (y 4) (y 5) (y 6) (y 7) n p (decide (c p = 126)) (v p) ∧ u p ≤ n ∧ v p ≤ n) ∧
  (y 3 p = 3 ∨ y 3 p = 4 → p + 1 ≤ n) ∧
  (y 3 p = 1 ∨ y 3 p = 2 ∨ y 3 p = 5 → ∃ q, y 7 p = nI q ∧ Go (y 3) (y 4) (y 7) n 65 q (w p) ∧ w p ≤ n) ∧
  (y 3 p = 1 → vp_in (c p - 97) 5) ∧ (∃ k, k ≤ 8 ∧ y 3 p = nI k)
def mWk (y : Sg) (c : Nat → Int32) (w u v : Nat → Nat) (p : Nat) (D : MD) : DQ :=
  if y 3 p = 7 then mBr c p (u p) (v p) (D.2.1 p, D.2.2.1 p, 0) D
  else if y 3 p = 3 ∨ y 3 p = 4 then (mJn (p + 1) (D.2.1 p, D.2.2.1 p, 0) D, (D.2.1 p, D.2.2.1 p, 0))
  else if y 3 p = 1 then (mJn (w p) (mAs c (y 2) p (D.2.1 p, D.2.2.1 p, 0)) D, mAs c (y 2) p (D.2.1 p, D.2.2.1 p, 0))
  else if y 3 p = 2 then (mJn (w p) (mSto c p (D.2.1 p, D.2.2.1 p, 0)) D, mSto c p (D.2.1 p, D.2.2.1 p, 0))
  else if y 3 p = 5 then (mJn (w p) (D.2.1 p, 0, 0) D, (D.2.1 p, 0, 0))
  else (D, (D.2.1 p, D.2.2.1 p, 0))
def mFl (y : Sg) (c : Nat → Int32) (w u v : Nat → Nat) (p : Nat) (s : DQ) : DQ :=
  (((mWk y c w u v p s.1).1.1, (mWk y c w u v p s.1).1.2.1, (mWk y c w u v p s.1).1.2.2.1, upd (mWk y c w u v p s.1).1.2.2.2.1 p (mWk y c w u v p s.1).2.2.2, (mWk y c w u v p s.1).1.2.2.2.2), (mWk y c w u v p s.1).2)
section
variable (l : Launch) (y : Sg) (b : Int64) {t : Nat → Int32} {n : Nat}
set_option maxRecDepth 100000 in
set_option maxHeartbeats 2000000 in
theorem c_M_flow (w u v : Nat → Nat) (hp : MT y t n) (hm : MPr y (chr t n) n w u v) (s : DQ) (p : Nat) (hpn : p ≤ n) (hr0 : 0 < y 3 p) : XMet l 5 q_M_flow [.ref 0, .int (nI p)] (vM (sD y s.1 s.2) b) none (vM (sD y (mFl y (chr t n) w u v p s).1 (mFl y (chr t n) w u v p s).2) b) := by
  have hn := hp.2.1
  obtain ⟨D, q⟩ := s
  obtain ⟨m1, m2, m3, m4, k8, hk8, ek8⟩ := hm p hpn
  refine xm_intro (by decide +kernel) (Nat.le_of_ble_eq_true rfl) ?_
  unfold mFl
  generalize hg : mWk y (chr t n) w u v p D = g
  have j : ∀ (D' : MD) (q' : ML), g = (D', q') → XW l 5 q_M_flow (fun a x => a = none ∧ x = vM (sD y (g.1.1, g.1.2.1, g.1.2.2.1, upd g.1.2.2.2.1 p g.2.2.2, g.1.2.2.2.2) g.2) b) 142 [(0, .ref 0), (1, .int (nI p))] [] (vM (sD y D' q') b) := by
    intro D' q' e
    subst e
    refine xw_go xcls ok_M_flow 60 [] ?_
    refine And.intro (in_nI (by omega) (by omega)) ?_
    rw [cl_nI (by omega)]
    exact And.intro rfl ⟨rfl, rfl⟩
  have j126 : ∀ (q' : ML), (y 3 p = 1 ∨ y 3 p = 2 ∨ y 3 p = 5) → g = (mJn (w p) q' D, q') → XW l 5 q_M_flow (fun a x => a = none ∧ x = vM (sD y (g.1.1, g.1.2.1, g.1.2.2.1, upd g.1.2.2.2.1 p g.2.2.2, g.1.2.2.2.2) g.2) b) 126 [(0, .ref 0), (1, .int (nI p))] [] (vM (sD y D q') b) := by
    intro q' hr e
    obtain ⟨z, e7, hgo, hw⟩ := m3 hr
    refine xw_go xcls ok_M_flow 60 [(142, [0, 1])] ?_
    refine And.intro (in_nI (by omega) (by omega)) ?_
    rw [cl_nI (by omega)]
    refine ⟨0, _, _, by decide, c_M_goes l (sD y D q') b hn z (w p) hgo e7, ?_⟩
    refine ⟨0, _, _, by decide, c_M_join l y b D q' (w p) (by omega), ?_⟩
    exact j _ _ e
  have j64 : (y 3 p = 3 ∨ y 3 p = 4) → ¬ y 3 p = 7 → XW l 5 q_M_flow (fun a x => a = none ∧ x = vM (sD y (g.1.1, g.1.2.1, g.1.2.2.1, upd g.1.2.2.2.1 p g.2.2.2, g.1.2.2.2.2) g.2) b) 64 [(0, .ref 0), (1, .int (nI p))] [] (vM (sD y D (D.2.1 p, D.2.2.1 p, 0)) b) := by
    intro hr h7
    have hp1 := m2 hr
    refine xw_go xcls ok_M_flow 60 [(142, [0, 1])] ?_
    refine ⟨0, _, _, by decide, c_M_join l y b D (D.2.1 p, D.2.2.1 p, 0) (p + 1) (by omega) (nI_p1 p), ?_⟩
    exact j _ _ (by rw [← hg, mWk, if_neg h7, if_pos hr])
  refine xw_go xcls ok_M_flow 60 [(142, [0, 1]), (126, [0, 1]), (64, [0, 1])] ?_
  refine And.intro (in_nI (by omega) (by omega)) ?_
  rw [cl_nI (by omega)]
  refine And.intro trivial ?_
  refine And.intro (in_nI (by omega) (by omega)) ?_
  rw [cl_nI (by omega)]
  refine And.intro trivial ?_
  refine And.intro trivial ?_
  refine And.intro (in_nI (by omega) (by omega)) ?_
  rw [cl_nI (by omega)]
  refine And.intro (fun h => ?_) (fun h => ?_)
  · have h7 : ¬ y 3 p = 7 := h
    refine And.intro (in_nI (by omega) (by omega)) ?_
    rw [cl_nI (by omega)]
    refine And.intro (fun h => j64 (Or.inl h) h7) (fun h => ?_)
    have h3 : ¬ y 3 p = 3 := h
    refine And.intro (in_nI (by omega) (by omega)) ?_
    rw [cl_nI (by omega)]
    refine And.intro (fun h => ?_) (fun h => j64 (Or.inr h) h7)
    have h4 : ¬ y 3 p = 4 := h
    have h34 : ¬ (y 3 p = 3 ∨ y 3 p = 4) := fun c => c.elim h3 h4
    refine And.intro (in_nI (by omega) (by omega)) ?_
    rw [cl_nI (by omega)]
    refine And.intro (fun h => ?_) (fun h => ?_)
    · have h6 : (6 : Int32) ≤ y 3 p := h
      have n1 : ¬ y 3 p = 1 := fun c => by rw [c] at h6; exact absurd h6 (by decide)
      have n2 : ¬ y 3 p = 2 := fun c => by rw [c] at h6; exact absurd h6 (by decide)
      have n5 : ¬ y 3 p = 5 := fun c => by rw [c] at h6; exact absurd h6 (by decide)
      exact j D (D.2.1 p, D.2.2.1 p, 0) (by rw [← hg, mWk, if_neg h7, if_neg h34, if_neg n1, if_neg n2, if_neg n5])
    · have h6 : ¬ (6 : Int32) ≤ y 3 p := h
      refine And.intro (in_nI (by omega) (by omega)) ?_
      rw [cl_nI (by omega)]
      refine And.intro (fun h => ?_) (fun h => ?_)
      · have n1 : ¬ y 3 p = 1 := h
        refine And.intro (in_nI (by omega) (by omega)) ?_
        rw [cl_nI (by omega)]
        refine And.intro (fun h => ?_) (fun h => ?_)
        · have n2 : ¬ y 3 p = 2 := h
          refine And.intro trivial ?_
          by_cases h5 : y 3 p = 5
          · exact j126 (D.2.1 p, 0, 0) (Or.inr (Or.inr h5)) (by rw [← hg, mWk, if_neg h7, if_neg h34, if_neg n1, if_neg n2, if_pos h5])
          · exfalso
            rw [ek8, show (7 : Int32) = nI 7 from rfl, nI_eq' (by omega) (by omega)] at h7
            rw [ek8, show (3 : Int32) = nI 3 from rfl, nI_eq' (by omega) (by omega)] at h3
            rw [ek8, show (4 : Int32) = nI 4 from rfl, nI_eq' (by omega) (by omega)] at h4
            rw [ek8, show (1 : Int32) = nI 1 from rfl, nI_eq' (by omega) (by omega)] at n1
            rw [ek8, show (2 : Int32) = nI 2 from rfl, nI_eq' (by omega) (by omega)] at n2
            rw [ek8, show (5 : Int32) = nI 5 from rfl, nI_eq' (by omega) (by omega)] at h5
            rw [ek8, show (6 : Int32) = nI 6 from rfl, nI_le' (by omega) (by omega)] at h6
            rw [ek8, show (0 : Int32) = nI 0 from rfl, nI_lt' (by omega) (by omega)] at hr0
            omega
        · have h2 : y 3 p = 2 := h
          have n1' := n1
          refine ⟨3, _, _, by decide, c_M_store l y b D (D.2.1 p, D.2.2.1 p, 0) p hp (by omega), ?_⟩
          exact j126 _ (Or.inr (Or.inl h2)) (by rw [← hg, mWk, if_neg h7, if_neg h34, if_neg n1, if_pos h2])
      · have h1 : y 3 p = 1 := h
        refine ⟨3, _, _, by decide, c_M_assign l y b D (D.2.1 p, D.2.2.1 p, 0) p hp (by omega) (m4 h1), ?_⟩
        exact j126 _ (Or.inl h1) (by rw [← hg, mWk, if_neg h7, if_neg h34, if_pos h1])
  · have h7 : y 3 p = 7 := h
    obtain ⟨t1, t0, hu, hv⟩ := m1 h7
    refine ⟨4, _, _, by decide, c_M_branch l y b D (D.2.1 p, D.2.2.1 p, 0) hp p (u p) (v p) hpn (by omega) (by omega) t1 t0, ?_⟩
    exact j _ _ (by rw [← hg, mWk, if_pos h7])
/-- one round: m places from p on -/
def mIn (y : Sg) (c : Nat → Int32) (w u v : Nat → Nat) : Nat → Nat → DQ → DQ
  | 0, _, s => s
  | m + 1, p, s => mIn y c w u v m (p + 1) (if ¬ s.1.1 p = 0 ∧ 0 < y 3 p then mFl y c w u v p s else s)
def d0 (s : DQ) (ch : Int32) : DQ := ((s.1.1, s.1.2.1, s.1.2.2.1, s.1.2.2.2.1, ch), s.2)
def mOut (y : Sg) (c : Nat → Int32) (w u v : Nat → Nat) (n : Nat) : Nat → DQ → DQ
  | 0, s => s
  | m + 1, s => if s.1.2.2.2.2 = 0 then s else mOut y c w u v n m (mIn y c w u v (n + 1) 0 (d0 s 0))
set_option maxRecDepth 100000 in
set_option maxHeartbeats 1000000 in
theorem lp_M_in (w u v : Nat → Nat) (hp : MT y t n) (hm : MPr y (chr t n) n w u v) (rd : Int32) (Rt : Option Value → List va_E → Prop) : ∀ (m p : Nat) (s : DQ), p + m = n + 1 →
    XW l 6 q_M_study Rt 149 [(0, .ref 0), (1, .int rd)] [] (vM (sD y (mIn y (chr t n) w u v m p s).1 (mIn y (chr t n) w u v m p s).2) b) →
    XW l 6 q_M_study Rt 112 [(0, .ref 0), (1, .int rd), (2, .int (nI p))] [] (vM (sD y s.1 s.2) b)
  | 0, p, s, hpm, K => by
    have hn := hp.2.1
    refine xw_go xcls ok_M_study 40 [(149, [0, 1])] ?_
    refine And.intro (fun h => K) (fun h => ?_)
    have h : ¬ y 0 1 < nI p := h
    rw [hp.1, nI_lt' (by omega) (by omega)] at h
    omega
  | m + 1, p, s, hpm, K => by
    have hn := hp.2.1
    have stp : ∀ s' : DQ, s' = (if ¬ s.1.1 p = 0 ∧ 0 < y 3 p then mFl y (chr t n) w u v p s else s) → XW l 6 q_M_study Rt 143 [(0, .ref 0), (1, .int rd), (2, .int (nI p))] [] (vM (sD y s'.1 s'.2) b) := by
      intro s' hs
      subst hs
      have ih := lp_M_in w u v hp hm rd Rt m (p + 1) _ (by omega) K
      rw [← nI_p1] at ih
      refine xw_go xcls ok_M_study 40 [(112, [0, 1, 2])] ?_
      exact ih
    refine xw_go xcls ok_M_study 40 [(149, [0, 1]), (143, [0, 1, 2])] ?_
    refine And.intro (fun h => ?_) (fun h => ?_)
    · have h : y 0 1 < nI p := h
      rw [hp.1, nI_lt' (by omega) (by omega)] at h
      omega
    · refine And.intro (in_nI (by omega) (by omega)) ?_
      rw [cl_nI (by omega)]
      refine And.intro (fun h2 => ?_) (fun h2 => ?_)
      · have h2 : s.1.1 p = 0 := h2
        exact stp s (by rw [if_neg (fun c => c.1 h2)])
      · have h2 : ¬ s.1.1 p = 0 := h2
        refine And.intro (in_nI (by omega) (by omega)) ?_
        rw [cl_nI (by omega)]
        refine And.intro (fun h3 => ?_) (fun h3 => ?_)
        · have h3 : y 3 p ≤ 0 := h3
          exact stp s (by rw [if_neg (fun c => Int32.not_lt.mpr h3 c.2)])
        · have h3 : 0 < y 3 p := Int32.not_le.mp h3
          refine ⟨5, _, _, by decide, c_M_flow l y b w u v hp hm s p (by omega) h3, ?_⟩
          exact stp _ (by rw [if_pos ⟨h2, h3⟩])
set_option maxRecDepth 100000 in
set_option maxHeartbeats 1000000 in
theorem lp_M_out (w u v : Nat → Nat) (hp : MT y t n) (hm : MPr y (chr t n) n w u v) : ∀ (m : Nat) (s : DQ), m ≤ 1000 →
    XW l 6 q_M_study (fun a x => a = none ∧ x = vM (sD y (mOut y (chr t n) w u v n m s).1 (mOut y (chr t n) w u v n m s).2) b) 91 [(0, .ref 0), (1, .int (nI (1000 - m)))] [] (vM (sD y s.1 s.2) b)
  | 0, s, hmm => by
    refine xw_go xcls ok_M_study 40 [] ?_
    refine And.intro (fun h => ?_) (fun h => absurd (by decide) h)
    exact And.intro rfl ⟨rfl, rfl⟩
  | m + 1, ((Rc, Su, Li, Al, ch), q), hmm => by
    refine xw_go xcls ok_M_study 40 [(112, [0, 1, 2])] ?_
    refine And.intro (fun h => absurd h (by rw [show (1000 : Int32) = nI 1000 from rfl, nI_le' (by omega) (by omega)]; omega)) (fun h => ?_)
    refine And.intro (fun h2 => ?_) (fun h2 => ?_)
    · have h2 : ch = 0 := h2
      exact And.intro rfl ⟨rfl, by simp only [mOut, if_pos h2]⟩
    · have h2 : ¬ ch = 0 := h2
      refine And.intro (Or.inl rfl) ?_
      have e : mOut y (chr t n) w u v n (m + 1) ((Rc, Su, Li, Al, ch), q) = mOut y (chr t n) w u v n m (mIn y (chr t n) w u v (n + 1) 0 ((Rc, Su, Li, Al, 0), q)) := by simp only [mOut, if_neg h2]; rfl
      rw [e]
      have K : XW l 6 q_M_study (fun a x => a = none ∧ x = vM (sD y (mOut y (chr t n) w u v n m (mIn y (chr t n) w u v (n + 1) 0 ((Rc, Su, Li, Al, 0), q))).1 (mOut y (chr t n) w u v n m (mIn y (chr t n) w u v (n + 1) 0 ((Rc, Su, Li, Al, 0), q))).2) b) 149 [(0, .ref 0), (1, .int (nI (1000 - (m + 1))))] [] (vM (sD y (mIn y (chr t n) w u v (n + 1) 0 ((Rc, Su, Li, Al, 0), q)).1 (mIn y (chr t n) w u v (n + 1) 0 ((Rc, Su, Li, Al, 0), q)).2) b) := by
        have ih := lp_M_out w u v hp hm m (mIn y (chr t n) w u v (n + 1) 0 ((Rc, Su, Li, Al, 0), q)) (by omega)
        generalize mIn y (chr t n) w u v (n + 1) 0 ((Rc, Su, Li, Al, 0), q) = s2 at ih ⊢
        refine xw_go xcls ok_M_study 40 [(91, [0, 1])] ?_
        rw [show nI (1000 - m) = nI (1000 - (m + 1)) + 1 by rw [nI_p1]; congr 1; omega] at ih
        exact ih
      generalize mOut y (chr t n) w u v n m (mIn y (chr t n) w u v (n + 1) 0 ((Rc, Su, Li, Al, 0), q)) = s3 at K ⊢
      exact lp_M_in l y b w u v hp hm (nI (1000 - (m + 1))) _ (n + 1) 0 ((Rc, Su, Li, Al, 0), q) (by omega) K
/-- the solid names as bits -/
def mSol (so : Nat → Int32) : Nat → Int32
  | 0 => 0
  | k + 1 => if so k = 0 then mSol so k else mSol so k ||| sb (nI k)
/-- what study begins with -/
def mS0 (y : Sg) (s : DQ) : DQ := d0 (mJn 0 (mSol (y 2) 5, 0, s.2.2.2) (fFill 65 s.1.1 0 65, s.1.2.1, s.1.2.2.1, fFill 65 s.1.2.2.2.1 0 65, s.1.2.2.2.2), (mSol (y 2) 5, 0, s.2.2.2)) 1
set_option maxRecDepth 100000 in
set_option maxHeartbeats 1000000 in
theorem lp_M_sol (D : MD) (a : Int32) (Rt : Option Value → List va_E → Prop) (K : XW l 6 q_M_study Rt 79 [(0, .ref 0)] [] (vM (sD y D (mSol (y 2) 5, 0, a)) b)) : ∀ (m k : Nat), k + m = 5 → XW l 6 q_M_study Rt 40 [(0, .ref 0), (1, .int (nI k))] [] (vM (sD y D (mSol (y 2) k, 0, a)) b)
  | 0, k, hk => by
    have hk : k = 5 := hk
    subst hk
    refine xw_go xcls ok_M_study 40 [(79, [0])] ?_
    refine And.intro (fun h => K) (fun h => absurd (by decide) h)
  | m + 1, k, hk => by
    have ih := lp_M_sol D a Rt K m (k + 1) (by omega)
    rw [← nI_p1 k] at ih
    refine xw_go xcls ok_M_study 40 [(40, [0, 1])] ?_
    refine And.intro (fun h => absurd h (by rw [show (5 : Int32) = nI 5 from rfl, nI_le' (by omega) (by omega)]; omega)) (fun h => ?_)
    refine And.intro (in_nI (by omega) (by omega)) ?_
    rw [cl_nI (by omega)]
    refine And.intro (fun h2 => ?_) (fun h2 => ?_)
    · have h2 : y 2 k = 0 := h2
      refine And.intro trivial ?_
      rw [show mSol (y 2) (k + 1) = mSol (y 2) k by simp only [mSol, if_pos h2]] at ih
      exact ih
    · have h2 : ¬ y 2 k = 0 := h2
      refine And.intro trivial ?_
      rw [show mSol (y 2) (k + 1) = mSol (y 2) k ||| sb (nI k) by simp only [mSol, if_neg h2]] at ih
      exact ih
set_option maxRecDepth 100000 in
set_option maxHeartbeats 1000000 in
theorem lp_M_clr (s : DQ) (Rt : Option Value → List va_E → Prop) (K : XW l 6 q_M_study Rt 28 [(0, .ref 0)] [] (vM (sD y (fFill 65 s.1.1 0 65, s.1.2.1, s.1.2.2.1, fFill 65 s.1.2.2.2.1 0 65, s.1.2.2.2.2) s.2) b)) : ∀ (m k : Nat), k + m = 65 → XW l 6 q_M_study Rt 2 [(0, .ref 0), (1, .int (nI k))] [] (vM (sD y (fFill 65 s.1.1 0 k, s.1.2.1, s.1.2.2.1, fFill 65 s.1.2.2.2.1 0 k, s.1.2.2.2.2) s.2) b)
  | 0, k, hk => by
    have hk : k = 65 := hk
    subst hk
    refine xw_go xcls ok_M_study 40 [(28, [0])] ?_
    refine And.intro (fun h => K) (fun h => absurd (by decide) h)
  | m + 1, k, hk => by
    have ih := lp_M_clr s Rt K m (k + 1) (by omega)
    rw [← nI_p1 k, ← fFill_s, ← fFill_s] at ih
    refine xw_go xcls ok_M_study 40 [(2, [0, 1])] ?_
    refine And.intro (fun h => absurd h (by rw [show (65 : Int32) = nI 65 from rfl, nI_le' (by omega) (by omega)]; omega)) (fun h => ?_)
    refine And.intro (in_nI (by omega) (by omega)) ?_
    rw [cl_nI (by omega)]
    refine And.intro (in_nI (by omega) (by omega)) ?_
    rw [cl_nI (by omega)]
    exact ih
def mStd (y : Sg) (c : Nat → Int32) (w u v : Nat → Nat) (n : Nat) (s : DQ) : DQ := mOut y c w u v n 1000 (mS0 y s)
set_option maxRecDepth 100000 in
set_option maxHeartbeats 1000000 in
theorem c_M_study (w u v : Nat → Nat) (hp : MT y t n) (hm : MPr y (chr t n) n w u v) (s : DQ) : XMet l 6 q_M_study [.ref 0] (vM (sD y s.1 s.2) b) none (vM (sD y (mStd y (chr t n) w u v n s).1 (mStd y (chr t n) w u v n s).2) b) := by
  refine xm_intro (by decide +kernel) (Nat.le_of_ble_eq_true rfl) ?_
  refine xw_go xcls ok_M_study 40 [(2, [0, 1])] ?_
  have hc := lp_M_clr l y b s (fun a x => a = none ∧ x = vM (sD y (mStd y (chr t n) w u v n s).1 (mStd y (chr t n) w u v n s).2) b) ?_ 65 0 (by omega)
  · rw [show fFill 65 s.1.1 0 0 = s.1.1 from by funext i; simp [fFill], show fFill 65 s.1.2.2.2.1 0 0 = s.1.2.2.2.1 from by funext i; simp [fFill]] at hc
    exact hc
  · refine xw_go xcls ok_M_study 40 [(40, [0, 1])] ?_
    refine And.intro trivial ?_
    refine And.intro trivial ?_
    refine lp_M_sol l y b (fFill 65 s.1.1 0 65, s.1.2.1, s.1.2.2.1, fFill 65 s.1.2.2.2.1 0 65, s.1.2.2.2.2) s.2.2.2 _ ?_ 5 0 (by omega)
    refine xw_go xcls ok_M_study 40 [(91, [0, 1])] ?_
    refine ⟨0, _, _, by decide, c_M_join l y b (fFill 65 s.1.1 0 65, s.1.2.1, s.1.2.2.1, fFill 65 s.1.2.2.2.1 0 65, s.1.2.2.2.2) (mSol (y 2) 5, 0, s.2.2.2) 0 (by omega), ?_⟩
    refine And.intro (Or.inr rfl) ?_
    have ih := lp_M_out l y b w u v hp hm 1000 (mS0 y s) (by omega)
    have em : mOut y (chr t n) w u v n 1000 (mS0 y s) = mStd y (chr t n) w u v n s := rfl
    rw [em] at ih
    generalize mStd y (chr t n) w u v n s = s4 at ih ⊢
    exact ih
end
