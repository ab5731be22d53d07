/-! The reference: what is known at a place -/
/-- reached, sures, links, alarmed, changed -/
abbrev MD : Type := (Nat → Int32) × (Nat → Int32) × (Nat → Int32) × (Nat → Int32) × Int32
/-- sure, linked, alarm -/
abbrev ML : Type := Int32 × Int32 × Int32
def sD (y : Sg) (D : MD) (q : ML) : Sg := us (us (us (us (uc (uc (uc (uc y 9 D.1) 10 D.2.1) 11 D.2.2.1) 12 D.2.2.2.1) 0 18 D.2.2.2.2) 0 15 q.1) 0 16 q.2.1) 0 17 q.2.2
abbrev hsP (x v : Int32) : Prop := (x >>> (v &&& 31)) &&& 1 = 1
def sb (v : Int32) : Int32 := 1 <<< (v &&& 31)
def mUse (v : Int32) (q : ML) : ML := (q.1 ||| sb v, q.2.1, if hsP q.1 v then q.2.2 else q.2.2 ||| 1)
section
variable (l : Launch) (y : Sg) (b : Int64) (D : MD) {t : Nat → Int32} {n : Nat}
set_option maxRecDepth 100000 in
theorem c_M_has (w : List va_E) (x v : Int32) : XMet l 0 q_M_has [.int x, .int v] w (some (.int (bI (hsP x v)))) w := by
  refine xm_intro (by decide +kernel) (Nat.le_of_ble_eq_true rfl) ?_
  refine xw_go xcls ok_M_has 40 [] ?_
  refine And.intro (fun h => ?_) (fun h => ?_)
  · exact And.intro (Or.inl rfl) ⟨by rw [bI, if_neg h], rfl⟩
  · exact And.intro (Or.inr rfl) ⟨by rw [bI, if_pos h], rfl⟩
set_option maxRecDepth 100000 in
set_option maxHeartbeats 1000000 in
theorem c_M_use (q : ML) (v : Int32) : XMet l 1 q_M_use [.ref 0, .int v] (vM (sD y D q) b) none (vM (sD y D (mUse v q)) b) := by
  refine xm_intro (by decide +kernel) (Nat.le_of_ble_eq_true rfl) ?_
  refine xw_go xcls ok_M_use 40 [] ?_
  refine ⟨0, _, _, by decide, c_M_has l _ q.1 v, ?_⟩
  by_cases h : hsP q.1 v
  · rw [show bI (hsP q.1 v) = 1 by rw [bI, if_pos h]]
    refine And.intro (fun c => absurd c (by decide)) (fun _ => ?_)
    refine And.intro trivial (And.intro trivial (And.intro rfl ⟨rfl, ?_⟩))
    rw [mUse, if_pos h]; rfl
  · rw [show bI (hsP q.1 v) = 0 by rw [bI, if_neg h]]
    refine And.intro (fun _ => ?_) (fun c => absurd rfl c)
    refine And.intro trivial (And.intro trivial (And.intro rfl ⟨rfl, ?_⟩))
    rw [mUse, if_neg h]; rfl
/-- is a value sure; what taking it leaves -/
def mSV (c : Nat → Int32) (i : Nat) (q : ML) : Int32 × ML :=
  if ¬ lcP (c i) then (bI (c i = 78), if c i = 64 then (q.1, 0, q.2.2) else q)
  else if ¬ fdP c (i + 1) then (bI (hsP q.1 (c i - 97)), q)
  else (bI (c (i + 2) = 103 ∨ hsP q.2.1 (c i - 97)), mUse (c i - 97) q)
theorem lc_64 {x : Int32} (h : lcP x) : ¬ x = 64 := fun e => by rw [e] at h; exact absurd h.1 (by decide)
theorem mUse_l {v : Int32} {q : ML} : (mUse v q).2.1 = q.2.1 := rfl
set_option maxRecDepth 100000 in
set_option maxHeartbeats 1000000 in
theorem c_M_sureValue (q : ML) (i : Nat) (hp : MT y t n) (hi : i < 800) {x : Int32} (hx : x = nI i := by rfl) : XMet l 2 q_M_sureValue [.ref 0, .int x] (vM (sD y D q) b) (some (.int (mSV (chr t n) i q).1)) (vM (sD y D (mSV (chr t n) i q).2) b) := by
  subst hx
  refine xm_intro (by decide +kernel) (Nat.le_of_ble_eq_true rfl) ?_
  generalize hres : mSV (chr t n) i q = res
  have j17 : ∀ q' : ML, q' = (if chr t n i = 64 then (q.1, 0, q.2.2) else q) → XW l 2 q_M_sureValue (fun u w => u = some (.int res.1) ∧ w = vM (sD y D res.2) b) 17 [(0, .ref 0), (1, .int (nI i)), (2, .int (chr t n i))] [] (vM (sD y D q') b) := by
    intro q' hq'
    refine xw_go xcls ok_M_sureValue 60 [(89, []), (93, [])] ?_
    refine ⟨1, _, _, by decide, c_M_isLocal l (sD y D q') b i hp (by omega), ?_⟩
    by_cases h1 : lcP (chr t n i)
    · have e1 : q' = q := by rw [hq', if_neg (lc_64 h1)]
      subst e1
      rw [show bI (lcP (chr t n i)) = 1 by rw [bI, if_pos h1]]
      refine And.intro (fun _ => ?_) (fun c => absurd c (by decide))
      refine ⟨1, _, _, by decide, c_M_isField l (sD y D q') b (i + 1) hp (by omega) (nI_p1 i), ?_⟩
      by_cases h2 : fdP (chr t n) (i + 1)
      · rw [show bI (fdP (chr t n) (i + 1)) = 1 by rw [bI, if_pos h2]]
        refine And.intro (fun _ => ?_) (fun c => absurd c (by decide))
        refine ⟨1, _, _, by decide, c_M_use l y b D q' (chr t n i - 97), ?_⟩
        have er : res = (bI (chr t n (i + 2) = 103 ∨ hsP q'.2.1 (chr t n i - 97)), mUse (chr t n i - 97) q') := by rw [← hres, mSV, if_neg (fun c => c h1), if_neg (fun c => c h2)]
        refine ⟨0, _, _, by decide, c_M_at l (sD y D (mUse (chr t n i - 97) q')) b (i + 2) hp (by omega) (nI_p2 i), ?_⟩
        have yes : (chr t n (i + 2) = 103 ∨ hsP q'.2.1 (chr t n i - 97)) → XW l 2 q_M_sureValue (fun u w => u = some (.int res.1) ∧ w = vM (sD y D res.2) b) 89 [] [] (vM (sD y D (mUse (chr t n i - 97) q')) b) := by
          intro hc
          rw [er]
          refine xw_go xcls ok_M_sureValue 60 [] ?_
          exact And.intro (Or.inr rfl) ⟨by rw [bI, if_pos hc], rfl⟩
        refine And.intro (fun h3 => yes (Or.inl h3)) (fun h3 => ?_)
        refine ⟨0, _, _, by decide, c_M_has l _ q'.2.1 (chr t n i - 97), ?_⟩
        by_cases h4 : hsP q'.2.1 (chr t n i - 97)
        · rw [show bI (hsP q'.2.1 (chr t n i - 97)) = 1 by rw [bI, if_pos h4]]
          refine And.intro (fun c => absurd c (by decide)) (fun _ => yes (Or.inr h4))
        · rw [show bI (hsP q'.2.1 (chr t n i - 97)) = 0 by rw [bI, if_neg h4]]
          refine And.intro (fun _ => ?_) (fun c => absurd rfl c)
          rw [er]
          refine xw_go xcls ok_M_sureValue 60 [] ?_
          exact And.intro (Or.inl rfl) ⟨by rw [bI, if_neg (fun c => c.elim h3 h4)], rfl⟩
      · rw [show bI (fdP (chr t n) (i + 1)) = 0 by rw [bI, if_neg h2]]
        refine And.intro (fun c => absurd rfl c) (fun _ => ?_)
        refine ⟨0, _, _, by decide, c_M_has l _ q'.1 (chr t n i - 97), ?_⟩
        have er : res = (bI (hsP q'.1 (chr t n i - 97)), q') := by rw [← hres, mSV, if_neg (fun c => c h1), if_pos h2]
        rw [er]
        exact And.intro (bI_01 _) ⟨rfl, rfl⟩
    · rw [show bI (lcP (chr t n i)) = 0 by rw [bI, if_neg h1]]
      refine And.intro (fun c => absurd rfl c) (fun _ => ?_)
      have er : res = (bI (chr t n i = 78), q') := by rw [← hres, mSV, if_pos h1, hq']
      rw [er]
      refine And.intro (fun h2 => ?_) (fun h2 => ?_)
      · exact And.intro (Or.inl rfl) ⟨by rw [bI, if_neg h2], rfl⟩
      · exact And.intro (Or.inr rfl) ⟨by rw [bI, if_pos h2], rfl⟩
  refine xw_go xcls ok_M_sureValue 60 [(17, [0, 1, 2])] ?_
  refine ⟨0, _, _, by decide, c_M_at l (sD y D q) b i hp (by omega), ?_⟩
  refine And.intro (fun h => ?_) (fun h => ?_)
  · exact j17 q (by rw [if_neg h])
  · refine And.intro trivial ?_
    exact j17 (q.1, 0, q.2.2) (by rw [if_pos h])
/-- a name written: its place in the text, whether it is solid -/
def mAs (c : Nat → Int32) (so : Nat → Int32) (p : Nat) (q : ML) : ML :=
  (if (mSV c (p + 2) q).1 = 0 ∧ ¬ so (c p - 97).toNatClampNeg = 0 then (mSV c (p + 2) q).2.1 else cSet (sb (c p - 97)) (mSV c (p + 2) q).1 (mSV c (p + 2) q).2.1,
   cSet (sb (c p - 97)) (bI (lcP (c (p + 2)) ∧ ¬ fdP c (p + 3) ∧ hsP (mSV c (p + 2) q).2.2.1 (c (p + 2) - 97))) (mSV c (p + 2) q).2.2.1,
   if (mSV c (p + 2) q).1 = 0 ∧ ¬ so (c p - 97).toNatClampNeg = 0 then (mSV c (p + 2) q).2.2.2 ||| 2 else (mSV c (p + 2) q).2.2.2)
set_option maxRecDepth 100000 in
set_option maxHeartbeats 2000000 in
theorem c_M_assign (q : ML) (p : Nat) (hp : MT y t n) (hi : p < 700) (hv : vp_in (chr t n p - 97) 5) : XMet l 3 q_M_assign [.ref 0, .int (nI p)] (vM (sD y D q) b) none (vM (sD y D (mAs (chr t n) (y 2) p q)) b) := by
  refine xm_intro (by decide +kernel) (Nat.le_of_ble_eq_true rfl) ?_
  generalize hres : mAs (chr t n) (y 2) p q = res
  have hm : res = (if (mSV (chr t n) (p + 2) q).1 = 0 ∧ ¬ y 2 (chr t n p - 97).toNatClampNeg = 0 then (mSV (chr t n) (p + 2) q).2.1 else cSet (sb (chr t n p - 97)) (mSV (chr t n) (p + 2) q).1 (mSV (chr t n) (p + 2) q).2.1, cSet (sb (chr t n p - 97)) (bI (lcP (chr t n (p + 2)) ∧ ¬ fdP (chr t n) (p + 3) ∧ hsP (mSV (chr t n) (p + 2) q).2.2.1 (chr t n (p + 2) - 97))) (mSV (chr t n) (p + 2) q).2.2.1, if (mSV (chr t n) (p + 2) q).1 = 0 ∧ ¬ y 2 (chr t n p - 97).toNatClampNeg = 0 then (mSV (chr t n) (p + 2) q).2.2.2 ||| 2 else (mSV (chr t n) (p + 2) q).2.2.2) := by rw [← hres]; rfl
  have csv := c_M_sureValue l y b D q (p + 2) hp (by omega) (nI_p2 p)
  generalize mSV (chr t n) (p + 2) q = f at hm csv
  obtain ⟨sv, q1⟩ := f
  simp only at hm csv
  -- the end
  have j131 : ∀ (q2 : ML) (li : Int32), q2 = (if sv = 0 ∧ ¬ y 2 (chr t n p - 97).toNatClampNeg = 0 then q1.1 else cSet (sb (chr t n p - 97)) sv q1.1, q1.2.1, if sv = 0 ∧ ¬ y 2 (chr t n p - 97).toNatClampNeg = 0 then q1.2.2 ||| 2 else q1.2.2) → li = bI (lcP (chr t n (p + 2)) ∧ ¬ fdP (chr t n) (p + 3) ∧ hsP q1.2.1 (chr t n (p + 2) - 97)) → XW l 3 q_M_assign (fun u w => u = none ∧ w = vM (sD y D res) b) 131 [(0, .ref 0), (2, .int (chr t n p - 97)), (5, .int li)] [] (vM (sD y D q2) b) := by
    intro q2 li h1 h2
    subst h1
    refine xw_go xcls ok_M_assign 60 [] ?_
    refine And.intro (fun h => ?_) (fun h => ?_)
    · refine And.intro trivial (And.intro rfl ⟨rfl, ?_⟩)
      rw [hm, ← h2, show cSet (sb (chr t n p - 97)) li q1.2.1 = q1.2.1 &&& (sb (chr t n p - 97) ^^^ -1) by rw [cSet, if_pos h]]; rfl
    · refine And.intro trivial (And.intro rfl ⟨rfl, ?_⟩)
      rw [hm, ← h2, show cSet (sb (chr t n p - 97)) li q1.2.1 = q1.2.1 ||| sb (chr t n p - 97) by rw [cSet, if_neg h]]; rfl
  have j102 : ∀ li : Int32, ¬ (sv = 0 ∧ ¬ y 2 (chr t n p - 97).toNatClampNeg = 0) → li = bI (lcP (chr t n (p + 2)) ∧ ¬ fdP (chr t n) (p + 3) ∧ hsP q1.2.1 (chr t n (p + 2) - 97)) → XW l 3 q_M_assign (fun u w => u = none ∧ w = vM (sD y D res) b) 102 [(0, .ref 0), (2, .int (chr t n p - 97)), (3, .int sv), (5, .int li)] [] (vM (sD y D q1) b) := by
    intro li hc h2
    refine xw_go xcls ok_M_assign 60 [(131, [0, 2, 5])] ?_
    refine And.intro (fun h => ?_) (fun h => ?_)
    · refine And.intro trivial ?_
      exact j131 (cSet (sb (chr t n p - 97)) sv q1.1, q1.2.1, q1.2.2) li (by rw [if_neg hc, if_neg hc]) h2 |> fun k => by
        rw [show cSet (sb (chr t n p - 97)) sv q1.1 = q1.1 &&& (sb (chr t n p - 97) ^^^ -1) by rw [cSet, if_pos h]] at k
        exact k
    · refine And.intro trivial ?_
      exact j131 (cSet (sb (chr t n p - 97)) sv q1.1, q1.2.1, q1.2.2) li (by rw [if_neg hc, if_neg hc]) h2 |> fun k => by
        rw [show cSet (sb (chr t n p - 97)) sv q1.1 = q1.1 ||| sb (chr t n p - 97) by rw [cSet, if_neg h]] at k
        exact k
  have j74 : ∀ li : Int32, li = bI (lcP (chr t n (p + 2)) ∧ ¬ fdP (chr t n) (p + 3) ∧ hsP q1.2.1 (chr t n (p + 2) - 97)) → XW l 3 q_M_assign (fun u w => u = none ∧ w = vM (sD y D res) b) 74 [(0, .ref 0), (2, .int (chr t n p - 97)), (3, .int sv)] [.int li] (vM (sD y D q1) b) := by
    intro li h2
    refine xw_go xcls ok_M_assign 60 [(131, [0, 2, 5]), (102, [0, 2, 3, 5])] ?_
    refine And.intro (fun h => j102 li (fun c => h c.1) h2) (fun h => ?_)
    refine And.intro hv ?_
    refine And.intro (fun h3 => j102 li (fun c => c.2 h3) h2) (fun h3 => ?_)
    refine And.intro trivial ?_
    exact j131 (q1.1, q1.2.1, q1.2.2 ||| 2) li (by rw [if_pos ⟨h, h3⟩, if_pos ⟨h, h3⟩]) h2
  have j73 : ¬ (lcP (chr t n (p + 2)) ∧ ¬ fdP (chr t n) (p + 3) ∧ hsP q1.2.1 (chr t n (p + 2) - 97)) → XW l 3 q_M_assign (fun u w => u = none ∧ w = vM (sD y D res) b) 73 [(0, .ref 0), (2, .int (chr t n p - 97)), (3, .int sv)] [] (vM (sD y D q1) b) := by
    intro hc
    refine xw_go xcls ok_M_assign 60 [(74, [0, 2, 3])] ?_
    exact j74 0 (by rw [bI, if_neg hc])
  have j42 : ∀ pl : Int32, (pl = 1 ∧ lcP (chr t n (p + 2)) ∧ ¬ fdP (chr t n) (p + 3)) ∨ (pl = 0 ∧ ¬ (lcP (chr t n (p + 2)) ∧ ¬ fdP (chr t n) (p + 3))) → XW l 3 q_M_assign (fun u w => u = none ∧ w = vM (sD y D res) b) 42 [(0, .ref 0), (1, .int (nI p)), (2, .int (chr t n p - 97)), (3, .int sv)] [.int pl] (vM (sD y D q1) b) := by
    intro pl hpl
    refine xw_go xcls ok_M_assign 60 [(73, [0, 2, 3]), (74, [0, 2, 3])] ?_
    rcases hpl with ⟨rfl, h1, h2⟩ | ⟨rfl, hc⟩
    · refine And.intro (fun c => absurd c (by decide)) (fun _ => ?_)
      refine ⟨0, _, _, by decide, c_M_at l (sD y D q1) b (p + 2) hp (by omega) (nI_p2 p), ?_⟩
      refine ⟨0, _, _, by decide, c_M_has l _ q1.2.1 (chr t n (p + 2) - 97), ?_⟩
      by_cases h3 : hsP q1.2.1 (chr t n (p + 2) - 97)
      · rw [show bI (hsP q1.2.1 (chr t n (p + 2) - 97)) = 1 by rw [bI, if_pos h3]]
        refine And.intro (fun c => absurd c (by decide)) (fun _ => ?_)
        exact j74 1 (by rw [bI, if_pos ⟨h1, h2, h3⟩])
      · rw [show bI (hsP q1.2.1 (chr t n (p + 2) - 97)) = 0 by rw [bI, if_neg h3]]
        refine And.intro (fun _ => ?_) (fun c => absurd rfl c)
        exact j73 (fun c => h3 c.2.2)
    · refine And.intro (fun _ => ?_) (fun c => absurd rfl c)
      exact j73 (fun c => hc ⟨c.1, c.2.1⟩)
  refine xw_go xcls ok_M_assign 60 [(42, [0, 1, 2, 3])] ?_
  refine ⟨0, _, _, by decide, c_M_at l (sD y D q) b p hp (by omega), ?_⟩
  refine ⟨2, _, _, by decide, csv, ?_⟩
  refine ⟨1, _, _, by decide, c_M_isLocal l (sD y D q1) b (p + 2) hp (by omega) (nI_p2 p), ?_⟩
  by_cases h1 : lcP (chr t n (p + 2))
  · rw [show bI (lcP (chr t n (p + 2))) = 1 by rw [bI, if_pos h1]]
    refine And.intro (fun c => absurd c (by decide)) (fun _ => ?_)
    refine ⟨1, _, _, by decide, c_M_isField l (sD y D q1) b (p + 3) hp (by omega) (nI_p3 p), ?_⟩
    by_cases h2 : fdP (chr t n) (p + 3)
    · rw [show bI (fdP (chr t n) (p + 3)) = 1 by rw [bI, if_pos h2]]
      refine And.intro (fun _ => ?_) (fun c => absurd c (by decide))
      exact j42 0 (Or.inr ⟨rfl, fun c => c.2 h2⟩)
    · rw [show bI (fdP (chr t n) (p + 3)) = 0 by rw [bI, if_neg h2]]
      refine And.intro (fun c => absurd rfl c) (fun _ => ?_)
      exact j42 1 (Or.inl ⟨rfl, h1, h2⟩)
  · rw [show bI (lcP (chr t n (p + 2))) = 0 by rw [bI, if_neg h1]]
    refine And.intro (fun _ => ?_) (fun c => absurd rfl c)
    exact j42 0 (Or.inr ⟨rfl, fun c => h1 c.1⟩)
/-- a field written -/
def mSto (c : Nat → Int32) (p : Nat) (q : ML) : ML :=
  ((mUse (c p - 97) (mSV c (p + 4) q).2).1,
   if c (p + 2) = 103 then (mSV c (p + 4) q).2.2.1 else if (mSV c (p + 4) q).1 = 0 then 0 else (mSV c (p + 4) q).2.2.1 ||| sb (c p - 97),
   if c (p + 2) = 103 ∧ (mSV c (p + 4) q).1 = 0 then (mUse (c p - 97) (mSV c (p + 4) q).2).2.2 ||| 2 else (mUse (c p - 97) (mSV c (p + 4) q).2).2.2)
theorem nI_p4 (i : Nat) : nI i + 4 = nI (i + 4) := nI_add i 4
set_option maxRecDepth 100000 in
set_option maxHeartbeats 2000000 in
theorem c_M_store (q : ML) (p : Nat) (hp : MT y t n) (hi : p < 700) : XMet l 3 q_M_store [.ref 0, .int (nI p)] (vM (sD y D q) b) none (vM (sD y D (mSto (chr t n) p q)) b) := by
  refine xm_intro (by decide +kernel) (Nat.le_of_ble_eq_true rfl) ?_
  refine xw_go xcls ok_M_store 60 [] ?_
  refine ⟨0, _, _, by decide, c_M_at l (sD y D q) b p hp (by omega), ?_⟩
  refine ⟨2, _, _, by decide, c_M_sureValue l y b D q (p + 4) hp (by omega) (nI_p4 p), ?_⟩
  unfold mSto
  generalize mSV (chr t n) (p + 4) q = f
  obtain ⟨sv, q1⟩ := f
  refine ⟨1, _, _, by decide, c_M_use l y b D q1 (chr t n p - 97), ?_⟩
  refine ⟨0, _, _, by decide, c_M_at l (sD y D (mUse (chr t n p - 97) q1)) b (p + 2) hp (by omega) (nI_p2 p), ?_⟩
  refine And.intro (fun h => ?_) (fun h => ?_)
  · refine And.intro (fun h2 => ?_) (fun h2 => ?_)
    · refine And.intro trivial (And.intro rfl ⟨rfl, ?_⟩)
      simp only [if_neg h, if_pos h2, if_neg (fun c : chr t n (p + 2) = 103 ∧ sv = 0 => h c.1)]; rfl
    · refine And.intro trivial (And.intro rfl ⟨rfl, ?_⟩)
      simp only [if_neg h, if_neg h2, if_neg (fun c : chr t n (p + 2) = 103 ∧ sv = 0 => h c.1)]; rfl
  · refine And.intro (fun h2 => ?_) (fun h2 => ?_)
    · refine And.intro trivial (And.intro rfl ⟨rfl, ?_⟩)
      simp only [if_pos h, if_pos (show chr t n (p + 2) = 103 ∧ sv = 0 from ⟨h, h2⟩)]; rfl
    · refine And.intro trivial (And.intro rfl ⟨rfl, ?_⟩)
      simp only [if_pos h, if_neg (fun c : chr t n (p + 2) = 103 ∧ sv = 0 => h2 c.2)]; rfl
end
