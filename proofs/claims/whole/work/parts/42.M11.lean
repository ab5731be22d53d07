/-! The reference: the steps of a run -/
theorem mFd_inv {c : Nat → Int32} {i : Nat} {m : MSt} (h : MInv m) : MInv (mFd c i m).2 ∧ ∀ x o, (mFd c i m).1 = some x → x = some o → o < 8 := by
  obtain ⟨i1, i2, i3, i4, i5⟩ := id h
  unfold mFd; split
  · have := MInv_mk h
    exact ⟨this.1, fun x o hx ho => by have hx := Option.some.inj hx; rw [← hx] at ho; have ho := Option.some.inj ho; omega⟩
  · split
    · refine ⟨h, fun x o hx ho => ?_⟩
      have hx : mAsk m = x := Option.some.inj hx
      rw [← hx] at ho
      unfold mAsk at ho; split at ho
      · cases ho
      · have ho := Option.some.inj ho
        have := Nat.min_le_right (tkN 2 m.2.2.2.2 - 1) (m.2.2.2.1 - 1)
        omega
    · split
      · exact ⟨h, fun x o hx ho => by have hx := Option.some.inj hx; rw [← hx] at ho; cases ho⟩
      · split
        · exact ⟨h, fun x o hx ho => by have hx := Option.some.inj hx; rw [← hx] at ho; exact i1 _ o ho⟩
        · split
          · exact ⟨h, fun x o hx ho => by cases hx⟩
          · rename_i q _
            refine ⟨h, fun x o hx ho => ?_⟩
            have hx : (if c (i + 2) = 103 then some (m.2.1 q) else m.2.2.1 q) = x := Option.some.inj hx
            rw [← hx] at ho
            split at ho
            · have ho := Option.some.inj ho
              have := i2 q; omega
            · exact i3 q o ho
theorem oI_ne2 {o : Option Nat} (h : ∀ q, o = some q → q < 8) : ¬ oI o = -2 := by
  cases o with
  | none => decide
  | some q => exact fun c => nI_n0 (show q < 2000 by have := h q rfl; omega) (by show nI q < 0; rw [show nI q = -2 from c]; decide)
def mPt (c : Nat → Int32) (so : Nat → Int32) (p : Nat) (m : MSt) : MSt × Int32 := match (mFd c (p + 2) m).1 with
  | none => ((mFd c (p + 2) m).2, 1)
  | some o => if o = none ∧ ¬ so (c p - 97).toNatClampNeg = 0 then ((mFd c (p + 2) m).2, 2) else (mLoc (c p - 97).toNatClampNeg o (mFd c (p + 2) m).2, 0)
def mKp (c : Nat → Int32) (p : Nat) (m : MSt) : MSt × Int32 := match (mFd c (p + 4) m).1 with
  | none => ((mFd c (p + 4) m).2, 1)
  | some o => match (mFd c (p + 4) m).2.1 (c p - 97).toNatClampNeg with
    | none => ((mFd c (p + 4) m).2, 1)
    | some q => if c (p + 2) = 104 then (mH q o (mFd c (p + 4) m).2, 0) else match o with
      | none => ((mFd c (p + 4) m).2, 2)
      | some x => (mG q x (mFd c (p + 4) m).2, 0)
section
variable (l : Launch) (y : Sg) (vs : Int32) {t : Nat → Int32} {n : Nat}
set_option maxRecDepth 100000 in
set_option maxHeartbeats 2000000 in
theorem c_M_put (m : MSt) (hm : MInv m) (hp : MT y t n) (p : Nat) (hi : p < 700) (hv : vp_in (chr t n p - 97) 5) : XMet l 3 q_M_put [.ref 0, .int (nI p)] (vR y m vs) (some (.int (mPt (chr t n) (y 2) p m).2)) (vR y (mPt (chr t n) (y 2) p m).1 vs) := by
  have cf := c_M_found l y vs m hm hp (p + 2) (by omega) (nI_p2 p)
  obtain ⟨f1, f2⟩ := mFd_inv (c := chr t n) (i := p + 2) hm
  refine xm_intro (by decide +kernel) (Nat.le_of_ble_eq_true rfl) ?_
  unfold mPt
  generalize mFd (chr t n) (p + 2) m = f at cf f1 f2 ⊢
  obtain ⟨o, m1⟩ := f
  refine xw_go xcls ok_M_put 60 [(40, [0, 2, 3])] ?_
  refine ⟨0, _, _, by decide, c_M_at l (sR y m vs) m.2.2.2.2 p hp (by omega), ?_⟩
  refine ⟨2, _, _, by decide, cf, ?_⟩
  cases o with
  | none =>
    refine And.intro (fun c => absurd rfl c) (fun _ => ?_)
    exact And.intro trivial ⟨rfl, rfl⟩
  | some o =>
    have ho : ∀ q, o = some q → q < 8 := fun q hq => f2 o q rfl hq
    refine And.intro (fun _ => ?_) (fun c => absurd c (oI_ne2 ho))
    have j40 : ∀ a m2, (a, m2) = (if o = none ∧ ¬ y 2 (chr t n p - 97).toNatClampNeg = 0 then (m1, (2 : Int32)) else (mLoc (chr t n p - 97).toNatClampNeg o m1, 0)) → ¬ (o = none ∧ ¬ y 2 (chr t n p - 97).toNatClampNeg = 0) → XW l 3 q_M_put (fun u w => u = some (.int m2) ∧ w = vR y a vs) 40 [(0, .ref 0), (2, .int (chr t n p - 97)), (3, .int (oI o))] [] (vR y m1 vs) := by
      intro a m2 e hc
      rw [if_neg hc] at e
      cases e
      refine xw_go xcls ok_M_put 60 [] ?_
      refine And.intro hv ?_
      exact And.intro trivial ⟨rfl, w_rLoc y vs⟩
    refine And.intro (fun h1 => ?_) (fun h1 => ?_)
    · have h1 : 0 ≤ oI o := h1
      obtain ⟨q, hq⟩ := (oI_ge ho).mp h1
      exact j40 _ _ rfl (fun c => by rw [hq] at c; cases c.1)
    · have h1 : ¬ 0 ≤ oI o := h1
      have hn : o = none := by
        cases o with
        | none => rfl
        | some q => exact absurd ((oI_ge ho).mpr ⟨q, rfl⟩) h1
      refine And.intro hv ?_
      refine And.intro (fun h2 => ?_) (fun h2 => ?_)
      · have h2 : y 2 (chr t n p - 97).toNatClampNeg = 0 := h2
        exact j40 _ _ rfl (fun c => c.2 h2)
      · have h2 : ¬ y 2 (chr t n p - 97).toNatClampNeg = 0 := h2
        simp only [if_pos (show o = none ∧ ¬ y 2 (chr t n p - 97).toNatClampNeg = 0 from ⟨hn, h2⟩)]
        exact And.intro trivial ⟨rfl, rfl⟩
set_option maxRecDepth 100000 in
set_option maxHeartbeats 2000000 in
theorem c_M_keep (m : MSt) (hm : MInv m) (hp : MT y t n) (p : Nat) (hi : p < 700) (hv : vp_in (chr t n p - 97) 5) : XMet l 3 q_M_keep [.ref 0, .int (nI p)] (vR y m vs) (some (.int (mKp (chr t n) p m).2)) (vR y (mKp (chr t n) p m).1 vs) := by
  have cf := c_M_found l y vs m hm hp (p + 4) (by omega) (nI_p4 p)
  obtain ⟨f1, f2⟩ := mFd_inv (c := chr t n) (i := p + 4) hm
  refine xm_intro (by decide +kernel) (Nat.le_of_ble_eq_true rfl) ?_
  unfold mKp
  generalize mFd (chr t n) (p + 4) m = f at cf f1 f2 ⊢
  obtain ⟨o, m1⟩ := f
  refine xw_go xcls ok_M_keep 60 [] ?_
  refine ⟨2, _, _, by decide, cf, ?_⟩
  refine ⟨0, _, _, by decide, c_M_at l (sR y m1 vs) m1.2.2.2.2 p hp (by omega), ?_⟩
  refine And.intro hv ?_
  generalize hvv : (chr t n p - 97).toNatClampNeg = v
  have e13 : sR y m1 vs 13 v = oI (m1.1 v) := rfl
  cases o with
  | none =>
    refine And.intro (fun _ => ?_) (fun c => absurd rfl c)
    exact And.intro trivial ⟨rfl, rfl⟩
  | some o =>
    have ho : ∀ q, o = some q → q < 8 := fun q hq => f2 o q rfl hq
    refine And.intro (fun c => absurd c (oI_ne2 ho)) (fun _ => ?_)
    cases hto : m1.1 v with
    | none =>
      refine And.intro (fun c => absurd (show 0 ≤ sR y m1 vs 13 v from c) (by rw [e13, hto]; decide)) (fun _ => ?_)
      exact And.intro trivial ⟨by simp only [hto], by simp only [hto]; rfl⟩
    | some q =>
      have hq8 := f1.1 v q hto
      have e14 : sR y m1 vs 13 v = nI q := by rw [e13, hto]; rfl
      refine And.intro (fun _ => ?_) (fun c => absurd (show 0 ≤ sR y m1 vs 13 v by rw [e14]; exact nI_g0 (by omega)) c)
      refine ⟨0, _, _, by decide, c_M_at l (sR y m1 vs) m1.2.2.2.2 (p + 2) hp (by omega) (nI_p2 p), ?_⟩
      refine And.intro (fun h1 => ?_) (fun h1 => ?_)
      · cases o with
        | none =>
          refine And.intro (fun c => absurd (show (0 : Int32) ≤ -1 from c) (by decide)) (fun _ => ?_)
          exact And.intro trivial ⟨by simp only [hto, if_neg h1], by simp only [hto, if_neg h1]; rfl⟩
        | some x =>
          refine And.intro (fun _ => ?_) (fun c => absurd (nI_g0 (by have := ho x rfl; omega)) c)
          refine And.intro (by show vp_in (sR y m1 vs 13 v) 8; rw [e14]; exact in_nI (by omega) (by omega)) ?_
          rw [e14, cl_nI (by omega)]
          refine And.intro trivial ⟨by simp only [hto, if_neg h1], ?_⟩
          simp only [hto, if_neg h1]
          exact w_rG y vs
      · refine And.intro (by show vp_in (sR y m1 vs 13 v) 8; rw [e14]; exact in_nI (by omega) (by omega)) ?_
        rw [e14, cl_nI (by omega)]
        refine And.intro trivial ⟨by simp only [hto, if_pos h1], ?_⟩
        simp only [hto, if_pos h1]
        exact w_rH y vs
/-- the next place, what is left, how the run stands -/
def mCh (c : Nat → Int32) (p u v : Nat) (m : MSt) : Nat × MSt × Int32 :=
  if c p = 37 then (if tkN 1 m.2.2.2.2 = 1 then u else v, mTk 1 m, -1)
  else match (mFd c (aNm c p) m).1 with
    | none => (p, (mFd c (aNm c p) m).2, 1)
    | some o => (if o.isSome then u else v, (mFd c (aNm c p) m).2, -1)
def vI (q : Nat × MSt × Int32) : Int32 := if q.2.2 = -1 then nI q.1 else -1 - q.2.2
theorem vI_e {p : Nat} {m : MSt} {e : Int32} (h : ¬ e = -1) : vI (p, m, e) = -1 - e := by simp [vI, h]
set_option maxRecDepth 100000 in
set_option maxHeartbeats 4000000 in
theorem c_M_choose (m : MSt) (hm : MInv m) (hp : MT y t n) (p u v : Nat) (hpn : p ≤ n) (h1 : Tr (chr t n) (y 3) (y 4) (y 5) (y 6) (y 7) n p (decide (¬ chr t n p = 126)) u) (h0 : Tr (chr t n) (y 3) (y 4) (y 5) (y 6) (y 7) n p (decide (chr t n p = 126)) v) : XMet l 4 q_M_choose [.ref 0, .int (nI p)] (vR y m vs) (some (.int (vI (mCh (chr t n) p u v m)))) (vR y (mCh (chr t n) p u v m).2.1 vs) := by
  have hn := hp.2.1
  have hnm : p ≤ aNm (chr t n) p ∧ aNm (chr t n) p ≤ p + 1 := by unfold aNm; split <;> omega
  have cf := c_M_found l y vs m hm hp (aNm (chr t n) p) (by omega)
  obtain ⟨f1, f2⟩ := mFd_inv (c := chr t n) (i := aNm (chr t n) p) hm
  refine xm_intro (by decide +kernel) (Nat.le_of_ble_eq_true rfl) ?_
  generalize hres : mCh (chr t n) p u v m = res
  generalize hf : mFd (chr t n) (aNm (chr t n) p) m = f at cf f1 f2
  obtain ⟨o, m1⟩ := f
  have j93 : ∀ (x : Int32) (yes : Bool) (m2 : MSt) (r : Nat), x = b01 yes → Tr (chr t n) (y 3) (y 4) (y 5) (y 6) (y 7) n p yes r → res = (r, m2, -1) → XW l 4 q_M_choose (fun a w => a = some (.int (vI res)) ∧ w = vR y res.2.1 vs) 93 [] [.int x, .int (nI p), .ref 0] (vR y m2 vs) := by
    intro x yes m2 r hx ht e
    rw [e]
    refine xw_go xcls ok_M_choose 60 [] ?_
    refine ⟨3, _, _, by decide, c_M_turn l (sR y m2 vs) m2.2.2.2.2 hp p r hpn yes ht hx, ?_⟩
    exact And.intro trivial ⟨rfl, rfl⟩
  have j44 : ∀ (x : Int32) (yes : Bool) (m2 : MSt) (r : Nat), x = b01 yes → Tr (chr t n) (y 3) (y 4) (y 5) (y 6) (y 7) n p yes r → res = (r, m2, -1) → XW l 4 q_M_choose (fun a w => a = some (.int (vI res)) ∧ w = vR y res.2.1 vs) 44 [] [.int x, .int (nI p), .ref 0] (vR y m2 vs) := by
    intro x yes m2 r hx ht e
    rw [e]
    refine xw_go xcls ok_M_choose 60 [] ?_
    refine ⟨3, _, _, by decide, c_M_turn l (sR y m2 vs) m2.2.2.2.2 hp p r hpn yes ht hx, ?_⟩
    exact And.intro trivial ⟨rfl, rfl⟩
  have j60 : ∀ (nt x : Int32), nt = b01 (decide (chr t n p = 126)) → x = nI (aNm (chr t n) p) → ¬ chr t n p = 37 → XW l 4 q_M_choose (fun a w => a = some (.int (vI res)) ∧ w = vR y res.2.1 vs) 60 [(0, .ref 0), (1, .int (nI p)), (2, .int nt)] [.int x, .ref 0] (vR y m vs) := by
    intro nt x hnt hx h37
    subst hx
    refine xw_go xcls ok_M_choose 60 [(93, [])] ?_
    refine ⟨2, _, _, by decide, cf, ?_⟩
    cases o with
    | none =>
      have er : res = (p, m1, 1) := by rw [← hres, mCh, if_neg h37]; simp only [hf]
      refine And.intro (fun c => absurd rfl c) (fun _ => ?_)
      rw [er]
      exact And.intro trivial ⟨congrArg (fun x => some (Value.int x)) (show (-2 : Int32) = vI (p, m1, 1) by rw [vI_e (by decide)]; decide), rfl⟩
    | some o =>
      have ho : ∀ q, o = some q → q < 8 := fun q hq => f2 o q rfl hq
      refine And.intro (fun _ => ?_) (fun c => absurd c (oI_ne2 ho))
      cases o with
      | none =>
        have er : res = (v, m1, -1) := by rw [← hres, mCh, if_neg h37]; simp only [hf]; rfl
        refine And.intro (fun _ => ?_) (fun c => absurd (show oI none < 0 by decide) c)
        by_cases h : chr t n p = 126
        · have e1 : nt = 1 := by rw [hnt]; simp [b01, h]
          subst e1
          refine And.intro (fun c => absurd c (by decide)) (fun _ => ?_)
          exact j93 1 _ m1 v (by simp [b01, h]) h0 er
        · have e1 : nt = 0 := by rw [hnt]; simp [b01, h]
          subst e1
          refine And.intro (fun _ => ?_) (fun c => absurd rfl c)
          exact j93 0 _ m1 v (by simp [b01, h]) h0 er
      | some q =>
        have er : res = (u, m1, -1) := by rw [← hres, mCh, if_neg h37]; simp only [hf]; rfl
        refine And.intro (fun c => absurd c (nI_n0 (by have := ho q rfl; omega))) (fun _ => ?_)
        by_cases h : chr t n p = 126
        · have e1 : nt = 1 := by rw [hnt]; simp [b01, h]
          subst e1
          refine And.intro (fun _ => ?_) (fun c => absurd rfl c)
          exact j93 0 _ m1 u (by simp [b01, h]) h1 er
        · have e1 : nt = 0 := by rw [hnt]; simp [b01, h]
          subst e1
          refine And.intro (fun c => absurd c (by decide)) (fun _ => ?_)
          exact j93 1 _ m1 u (by simp [b01, h]) h1 er
  have j15 : ∀ nt : Int32, nt = b01 (decide (chr t n p = 126)) → XW l 4 q_M_choose (fun a w => a = some (.int (vI res)) ∧ w = vR y res.2.1 vs) 15 [(0, .ref 0), (1, .int (nI p))] [.int nt] (vR y m vs) := by
    intro nt hnt
    refine xw_go xcls ok_M_choose 60 [(60, [0, 1, 2]), (44, [])] ?_
    refine ⟨0, _, _, by decide, c_M_at l (sR y m vs) m.2.2.2.2 p hp (by omega), ?_⟩
    refine And.intro (fun h37 => ?_) (fun h37 => ?_)
    · by_cases h : chr t n p = 126
      · have e1 : nt = 1 := by rw [hnt]; simp [b01, h]
        refine And.intro (fun c => absurd (e1.symm.trans c) (by decide)) (fun _ => ?_)
        exact j60 nt _ hnt (by rw [nI_p1, aNm, if_pos h]) h37
      · have e1 : nt = 0 := by rw [hnt]; simp [b01, h]
        refine And.intro (fun _ => ?_) (fun c => absurd e1 c)
        exact j60 nt _ hnt (by rw [aNm, if_neg h]) h37
    · have hn126 : ¬ chr t n p = 126 := by rw [h37]; decide
      have h2 := tkN_1 m.2.2.2.2
      have er : res = (if tkN 1 m.2.2.2.2 = 1 then u else v, mTk 1 m, -1) := by rw [← hres, mCh, if_pos h37]
      refine ⟨0, _, _, by decide, c_M_take l y vs m 1 (Or.inl rfl), ?_⟩
      refine And.intro (fun h => ?_) (fun h => ?_)
      · rw [show (1 : Int32) = nI 1 from rfl, nI_eq' (by omega) (by omega)] at h
        rw [if_neg h] at er
        exact j44 0 _ _ v (by simp [b01, hn126]) h0 er
      · rw [show (1 : Int32) = nI 1 from rfl, nI_eq' (by omega) (by omega)] at h
        rw [if_pos h] at er
        exact j44 1 _ _ u (by simp [b01, hn126]) h1 er
  refine xw_go xcls ok_M_choose 60 [(15, [0, 1])] ?_
  refine ⟨0, _, _, by decide, c_M_at l (sR y m vs) m.2.2.2.2 p hp (by omega), ?_⟩
  refine And.intro (fun h => ?_) (fun h => ?_)
  · exact j15 0 (by simp [b01, h])
  · exact j15 1 (by simp [b01, h])
end
