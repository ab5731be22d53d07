/-! The reference: joins, the work at a place, rounds -/
/-- a state joined at a place -/
def mJn (p : Nat) (q : ML) (D : MD) : MD :=
  (upd D.1 p 1, upd D.2.1 p (if D.1 p = 0 then q.1 else D.2.1 p &&& q.1), upd D.2.2.1 p (if D.1 p = 0 then q.2.1 else D.2.2.1 p &&& q.2.1), D.2.2.2.1,
   if ¬ D.2.2.2.2 = 0 ∨ D.1 p = 0 ∨ ¬ (if D.1 p = 0 then q.1 else D.2.1 p &&& q.1) = D.2.1 p ∨ ¬ (if D.1 p = 0 then q.2.1 else D.2.2.1 p &&& q.2.1) = D.2.2.1 p then 1 else 0)
section
variable (l : Launch) (y : Sg) (b : Int64) {t : Nat → Int32} {n : Nat}
set_option maxRecDepth 100000 in
set_option maxHeartbeats 2000000 in
theorem c_M_join (D : MD) (q : ML) (p : Nat) (hp : p < 65) {x : Int32} (hx : x = nI p := by rfl) : XMet l 0 q_M_join [.ref 0, .int x] (vM (sD y D q) b) none (vM (sD y (mJn p q D) q) b) := by
  subst hx
  refine xm_intro (by decide +kernel) (Nat.le_of_ble_eq_true rfl) ?_
  generalize ha : (if D.1 p = 0 then q.1 else D.2.1 p &&& q.1) = av
  generalize hb : (if D.1 p = 0 then q.2.1 else D.2.2.1 p &&& q.2.1) = bv
  generalize hc : (if ¬ D.2.2.2.2 = 0 ∨ D.1 p = 0 ∨ ¬ av = D.2.1 p ∨ ¬ bv = D.2.2.1 p then (1 : Int32) else 0) = cv
  have hm : mJn p q D = (upd D.1 p 1, upd D.2.1 p av, upd D.2.2.1 p bv, D.2.2.2.1, cv) := by rw [← hc, ← ha, ← hb]; rfl
  rw [hm]
  have j92 : ∀ c : Int32, c = cv → XW l 0 q_M_join (fun u w => u = none ∧ w = vM (sD y (upd D.1 p 1, upd D.2.1 p av, upd D.2.2.1 p bv, D.2.2.2.1, cv) q) b) 92 [(0, .ref 0), (1, .int (nI p)), (3, .int av), (4, .int bv)] [.int c, .ref 0] (vM (sD y D q) b) := by
    intro c hcc
    subst hcc
    refine xw_go xcls ok_M_join 60 [] ?_
    refine And.intro (by rw [← hc]; split <;> simp [xfit]) ?_
    refine And.intro (in_nI (by omega) (by omega)) ?_
    rw [cl_nI (by omega)]
    refine And.intro (in_nI (by omega) (by omega)) ?_
    rw [cl_nI (by omega)]
    refine And.intro (in_nI (by omega) (by omega)) ?_
    rw [cl_nI (by omega)]
    exact And.intro rfl ⟨rfl, rfl⟩
  have j87 : (¬ D.2.2.2.2 = 0 ∨ D.1 p = 0 ∨ ¬ av = D.2.1 p ∨ ¬ bv = D.2.2.1 p) → XW l 0 q_M_join (fun u w => u = none ∧ w = vM (sD y (upd D.1 p 1, upd D.2.1 p av, upd D.2.2.1 p bv, D.2.2.2.1, cv) q) b) 87 [(0, .ref 0), (1, .int (nI p)), (3, .int av), (4, .int bv)] [.ref 0] (vM (sD y D q) b) := by
    intro h
    refine xw_go xcls ok_M_join 60 [(92, [0, 1, 3, 4])] ?_
    exact j92 1 (by rw [← hc, if_pos h])
  have j52 : ∀ x : Int32, x = bv → XW l 0 q_M_join (fun u w => u = none ∧ w = vM (sD y (upd D.1 p 1, upd D.2.1 p av, upd D.2.2.1 p bv, D.2.2.2.1, cv) q) b) 52 [(0, .ref 0), (1, .int (nI p)), (2, .int (D.1 p)), (3, .int av)] [.int x] (vM (sD y D q) b) := by
    intro x hx
    subst hx
    refine xw_go xcls ok_M_join 60 [(92, [0, 1, 3, 4]), (87, [0, 1, 3, 4])] ?_
    refine And.intro (fun h => j87 (Or.inl h)) (fun h => ?_)
    refine And.intro (fun h2 => j87 (Or.inr (Or.inl h2))) (fun h2 => ?_)
    refine And.intro (in_nI (by omega) (by omega)) ?_
    rw [cl_nI (by omega)]
    refine And.intro (fun h3 => j87 (Or.inr (Or.inr (Or.inl h3)))) (fun h3 => ?_)
    refine And.intro (in_nI (by omega) (by omega)) ?_
    rw [cl_nI (by omega)]
    refine And.intro (fun h4 => ?_) (fun h4 => j87 (Or.inr (Or.inr (Or.inr h4))))
    exact j92 0 (by rw [← hc, if_neg (fun c => c.elim (fun c => c h) (fun c => c.elim h2 (fun c => c.elim (fun c => c h3) (fun c => c h4))))])
  have j29 : ∀ x : Int32, x = av → XW l 0 q_M_join (fun u w => u = none ∧ w = vM (sD y (upd D.1 p 1, upd D.2.1 p av, upd D.2.2.1 p bv, D.2.2.2.1, cv) q) b) 29 [(0, .ref 0), (1, .int (nI p)), (2, .int (D.1 p))] [.int x] (vM (sD y D q) b) := by
    intro x hx
    subst hx
    refine xw_go xcls ok_M_join 60 [(52, [0, 1, 2, 3])] ?_
    refine And.intro (fun h => ?_) (fun h => ?_)
    · exact j52 q.2.1 (by rw [← hb, if_pos h])
    · refine And.intro (in_nI (by omega) (by omega)) ?_
      rw [cl_nI (by omega)]
      exact j52 (D.2.2.1 p &&& q.2.1) (by rw [← hb, if_neg h])
  refine xw_go xcls ok_M_join 60 [(29, [0, 1, 2])] ?_
  refine And.intro (in_nI (by omega) (by omega)) ?_
  rw [cl_nI (by omega)]
  refine And.intro (fun h => ?_) (fun h => ?_)
  · have h : D.1 p = 0 := h
    exact j29 q.1 (by rw [← ha, if_pos h])
  · refine And.intro (in_nI (by omega) (by omega)) ?_
    rw [cl_nI (by omega)]
    have h : ¬ D.1 p = 0 := h
    exact j29 (D.2.1 p &&& q.1) (by rw [← ha, if_neg h])
/-- at an atom: behind a use; then what is known on the other way -/
def mB1 (c : Nat → Int32) (p : Nat) (q : ML) : ML := if fdP c (aNm c p + 1) then mUse (c (aNm c p) - 97) q else q
def mB2 (c : Nat → Int32) (p : Nat) (q : ML) : ML := if c (aNm c p) = 37 then q else
  (if fdP c (aNm c p + 1) then q.1 else q.1 ||| sb (c (aNm c p) - 97), if fdP c (aNm c p + 1) ∧ c (aNm c p + 2) = 104 then q.2.1 ||| sb (c (aNm c p) - 97) else q.2.1, q.2.2)
/-- u: where one goes if what the atom names holds an object; v: if it holds nothing -/
def mBr (c : Nat → Int32) (p u v : Nat) (q : ML) (D : MD) : MD × ML := (mJn u (mB2 c p (mB1 c p q)) (mJn v (mB1 c p q) D), mB2 c p (mB1 c p q))
set_option maxRecDepth 100000 in
set_option maxHeartbeats 4000000 in
theorem c_M_branch (D : MD) (q : ML) (hp : MT y t n) (p u v : Nat) (hpn : p ≤ n) (hu : u < 65) (hv : v < 65) (h1 : Tr (chr t n) (y 3) (y 4) (y 5) (y 6) (y 7) n p (decide (¬ chr t n p = 126)) u) (h0 : Tr (chr t n) (y 3) (y 4) (y 5) (y 6) (y 7) n p (decide (chr t n p = 126)) v) : XMet l 4 q_M_branch [.ref 0, .int (nI p)] (vM (sD y D q) b) none (vM (sD y (mBr (chr t n) p u v q D).1 (mBr (chr t n) p u v q D).2) b) := by
  have hn := hp.2.1
  have hnm : p ≤ aNm (chr t n) p ∧ aNm (chr t n) p ≤ p + 1 := by unfold aNm; split <;> omega
  refine xm_intro (by decide +kernel) (Nat.le_of_ble_eq_true rfl) ?_
  generalize hq1 : mB1 (chr t n) p q = q1
  generalize hq2 : mB2 (chr t n) p q1 = q2
  have hmb : mBr (chr t n) p u v q D = (mJn u q2 (mJn v q1 D), q2) := by unfold mBr; rw [hq1, hq2]
  rw [hmb]
  have j159 : ∀ x : Int32, x = b01 (decide (¬ chr t n p = 126)) → XW l 4 q_M_branch (fun a w => a = none ∧ w = vM (sD y (mJn u q2 (mJn v q1 D)) q2) b) 159 [(0, .ref 0)] [.int x, .int (nI p), .ref 0] (vM (sD y (mJn v q1 D) q2) b) := by
    intro x hx
    refine xw_go xcls ok_M_branch 60 [] ?_
    refine ⟨3, _, _, by decide, c_M_turn l (sD y (mJn v q1 D) q2) b hp p u hpn _ h1 hx, ?_⟩
    refine ⟨0, _, _, by decide, c_M_join l y b (mJn v q1 D) q2 u hu, ?_⟩
    exact And.intro rfl ⟨rfl, rfl⟩
  have j148 : XW l 4 q_M_branch (fun a w => a = none ∧ w = vM (sD y (mJn u q2 (mJn v q1 D)) q2) b) 148 [(0, .ref 0), (1, .int (nI p)), (2, .int (b01 (decide (chr t n p = 126))))] [] (vM (sD y (mJn v q1 D) q2) b) := by
    refine xw_go xcls ok_M_branch 60 [(159, [0])] ?_
    by_cases h : chr t n p = 126
    · refine And.intro (fun _ => ?_) (fun c => absurd c (by simp [b01, h]))
      exact j159 0 (by simp [b01, h])
    · refine And.intro (fun c => absurd (show b01 (decide (chr t n p = 126)) = 0 by simp [b01, h]) c) (fun _ => ?_)
      exact j159 1 (by simp [b01, h])
  have jl : ∀ (x s0 : Int32) (q3 : ML), ¬ chr t n (aNm (chr t n) p) = 37 → q3 = (s0, q1.2.1, q1.2.2) → s0 = q2.1 → x = q2.2.1 → XW l 4 q_M_branch (fun a w => a = none ∧ w = vM (sD y (mJn u q2 (mJn v q1 D)) q2) b) 145 [(0, .ref 0), (1, .int (nI p)), (2, .int (b01 (decide (chr t n p = 126))))] [.int x, .ref 0] (vM (sD y (mJn v q1 D) q3) b) := by
    intro x s0 q3 hc h1 h2 h3
    subst h1
    refine xw_go xcls ok_M_branch 60 [(148, [0, 1, 2])] ?_
    refine And.intro trivial ?_
    have e : q2 = (s0, x, q1.2.2) := by
      rw [h2, h3, ← hq2, mB2, if_neg hc]
    rw [e] at j148 ⊢
    exact j148
  have j112 : ∀ s0 : Int32, ¬ chr t n (aNm (chr t n) p) = 37 → s0 = q2.1 → XW l 4 q_M_branch (fun a w => a = none ∧ w = vM (sD y (mJn u q2 (mJn v q1 D)) q2) b) 112 [(0, .ref 0), (1, .int (nI p)), (2, .int (b01 (decide (chr t n p = 126)))), (3, .int (nI (aNm (chr t n) p))), (4, .int (chr t n (aNm (chr t n) p) - 97)), (5, .int (bI (fdP (chr t n) (aNm (chr t n) p + 1)))), (7, .int q1.2.1)] [.int s0, .ref 0] (vM (sD y (mJn v q1 D) q1) b) := by
    intro s0 hc h2
    refine xw_go xcls ok_M_branch 60 [(145, [0, 1, 2])] ?_
    refine And.intro trivial ?_
    have e2 : q2.2.1 = if fdP (chr t n) (aNm (chr t n) p + 1) ∧ chr t n (aNm (chr t n) p + 2) = 104 then q1.2.1 ||| sb (chr t n (aNm (chr t n) p) - 97) else q1.2.1 := by rw [← hq2, mB2, if_neg hc]
    by_cases hf : fdP (chr t n) (aNm (chr t n) p + 1)
    · rw [show bI (fdP (chr t n) (aNm (chr t n) p + 1)) = 1 by rw [bI, if_pos hf]]
      refine And.intro (fun c => absurd c (by decide)) (fun _ => ?_)
      refine ⟨0, _, _, by decide, c_M_at l (sD y (mJn v q1 D) (s0, q1.2.1, q1.2.2)) b (aNm (chr t n) p + 2) hp (by omega) (nI_p2 _), ?_⟩
      refine And.intro (fun h4 => ?_) (fun h4 => ?_)
      · exact jl q1.2.1 s0 _ hc rfl h2 (by rw [e2, if_neg (fun c => h4 c.2)])
      · exact jl (q1.2.1 ||| sb (chr t n (aNm (chr t n) p) - 97)) s0 _ hc rfl h2 (by rw [e2, if_pos ⟨hf, h4⟩])
    · rw [show bI (fdP (chr t n) (aNm (chr t n) p + 1)) = 0 by rw [bI, if_neg hf]]
      refine And.intro (fun _ => ?_) (fun c => absurd rfl c)
      exact jl q1.2.1 s0 _ hc rfl h2 (by rw [e2, if_neg (fun c => hf c.1)])
  have j58 : XW l 4 q_M_branch (fun a w => a = none ∧ w = vM (sD y (mJn u q2 (mJn v q1 D)) q2) b) 58 [(0, .ref 0), (1, .int (nI p)), (2, .int (b01 (decide (chr t n p = 126)))), (3, .int (nI (aNm (chr t n) p))), (4, .int (chr t n (aNm (chr t n) p) - 97)), (5, .int (bI (fdP (chr t n) (aNm (chr t n) p + 1))))] [] (vM (sD y D q1) b) := by
    refine xw_go xcls ok_M_branch 60 [(148, [0, 1, 2]), (112, [0, 1, 2, 3, 4, 5, 7])] ?_
    refine ⟨3, _, _, by decide, c_M_turn l (sD y D q1) b hp p v hpn _ h0, ?_⟩
    refine ⟨0, _, _, by decide, c_M_join l y b D q1 v hv, ?_⟩
    refine ⟨0, _, _, by decide, c_M_at l (sD y (mJn v q1 D) q1) b (aNm (chr t n) p) hp (by omega), ?_⟩
    refine And.intro (fun h => ?_) (fun h => ?_)
    · have e : q2 = q1 := by rw [← hq2, mB2, if_pos h]
      rw [e] at j148 ⊢
      exact j148
    · have e1 : q2.1 = if fdP (chr t n) (aNm (chr t n) p + 1) then q1.1 else q1.1 ||| sb (chr t n (aNm (chr t n) p) - 97) := by rw [← hq2, mB2, if_neg h]
      by_cases hf : fdP (chr t n) (aNm (chr t n) p + 1)
      · rw [show bI (fdP (chr t n) (aNm (chr t n) p + 1)) = 1 by rw [bI, if_pos hf]] at j112 ⊢
        refine And.intro (fun c => absurd c (by decide)) (fun _ => ?_)
        exact j112 q1.1 h (by rw [e1, if_pos hf])
      · rw [show bI (fdP (chr t n) (aNm (chr t n) p + 1)) = 0 by rw [bI, if_neg hf]] at j112 ⊢
        refine And.intro (fun _ => ?_) (fun c => absurd rfl c)
        exact j112 (q1.1 ||| sb (chr t n (aNm (chr t n) p) - 97)) h (by rw [e1, if_neg hf])
  have j27 : ∀ x : Int32, x = nI (aNm (chr t n) p) → XW l 4 q_M_branch (fun a w => a = none ∧ w = vM (sD y (mJn u q2 (mJn v q1 D)) q2) b) 27 [(0, .ref 0), (1, .int (nI p)), (2, .int (b01 (decide (chr t n p = 126))))] [.int x] (vM (sD y D q) b) := by
    intro x hx
    subst hx
    refine xw_go xcls ok_M_branch 60 [(58, [0, 1, 2, 3, 4, 5])] ?_
    refine ⟨0, _, _, by decide, c_M_at l (sD y D q) b (aNm (chr t n) p) hp (by omega), ?_⟩
    refine ⟨1, _, _, by decide, c_M_isField l (sD y D q) b (aNm (chr t n) p + 1) hp (by omega) (nI_p1 _), ?_⟩
    by_cases hf : fdP (chr t n) (aNm (chr t n) p + 1)
    · have e : q1 = mUse (chr t n (aNm (chr t n) p) - 97) q := by rw [← hq1, mB1, if_pos hf]
      rw [show bI (fdP (chr t n) (aNm (chr t n) p + 1)) = 1 by rw [bI, if_pos hf]] at j58 ⊢
      refine And.intro (fun c => absurd c (by decide)) (fun _ => ?_)
      refine ⟨1, _, _, by decide, c_M_use l y b D q (chr t n (aNm (chr t n) p) - 97), ?_⟩
      rw [← e]
      exact j58
    · have e : q1 = q := by rw [← hq1, mB1, if_neg hf]
      rw [show bI (fdP (chr t n) (aNm (chr t n) p + 1)) = 0 by rw [bI, if_neg hf]] at j58 ⊢
      refine And.intro (fun _ => ?_) (fun c => absurd rfl c)
      rw [e] at j58 ⊢
      exact j58
  refine xw_go xcls ok_M_branch 60 [(27, [0, 1, 2])] ?_
  refine ⟨0, _, _, by decide, c_M_at l (sD y D q) b p hp (by omega), ?_⟩
  by_cases h : chr t n p = 126
  · rw [show b01 (decide (chr t n p = 126)) = 1 by simp [b01, h]] at j27
    refine And.intro (fun c => absurd h c) (fun _ => ?_)
    refine And.intro (fun c => absurd c (by decide)) (fun _ => ?_)
    exact j27 _ (by rw [nI_p1, aNm, if_pos h])
  · rw [show b01 (decide (chr t n p = 126)) = 0 by simp [b01, h]] at j27
    refine And.intro (fun _ => ?_) (fun c => absurd c h)
    refine And.intro (fun _ => ?_) (fun c => absurd rfl c)
    exact j27 _ (by rw [aNm, if_neg h])
end
