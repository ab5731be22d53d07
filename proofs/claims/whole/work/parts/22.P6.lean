/-! Program: parse -/
theorem fLk_n {c : Nat → Int32} {o h a : Nat} (h7 : a ≠ 7) (h8 : a ≠ 8) : ∀ (m : Nat) (z : Sg) (T F : Nat), fLk c o h m z T F a = z a
  | 0, z, T, F => rfl
  | m + 1, z, T, F => by
    unfold fLk; split
    · exact fLk_n h7 h8 m z _ _
    · split
      · rw [fLk_n h7 h8 m _ _ _]; simp [us, h7, h8]
      · exact fLk_n h7 h8 m z _ _
theorem clZ_n {z : Sg} {i a : Nat} {f : Option Nat} (h9 : a ≠ 9) : clZ z i f a = z a := by
  cases f with
  | none => rfl
  | some y => simp [clZ, us, h9]
theorem RSk_c {z z' : Sg} : ∀ (k : List Fr), (∀ j, j < k.length → z' 10 j = z 10 j ∧ z' 11 j = z 11 j ∧ z' 12 j = z 12 j) → RSk z k → RSk z' k
  | [], _, _ => trivial
  | f :: r, h, hR => by
    obtain ⟨h1, h2, h3, h4, h5⟩ := hR
    obtain ⟨e1, e2, e3⟩ := h r.length (by simp)
    exact ⟨e1.trans h1, e2.trans h2, e3.trans h3, h4, RSk_c r (fun j hj => h j (by simp; omega)) h5⟩
theorem PT_c {z z' : Sg} {t : Nat → Int32} {n : Nat} (h : PT z t n) (h0 : z' 0 1 = z 0 1) (h1 : z' 1 = z 1) : PT z' t n := ⟨h0.trans h.1, h.2.1, h1.trans h.2.2.1, h.2.2.2⟩
theorem fClose_ok {t : Nat → Int32} {n : Nat} {z : Sg} {i j : Nat} {k : List Fr} (hp : PT z t n) (hi : i < 64) (hs : PStk z k) (h : (fClose (chr t n) z i k).1 = some j) : PStk (fClose (chr t n) z i k).2.1 (fClose (chr t n) z i k).2.2 ∧ PT (fClose (chr t n) z i k).2.1 t n ∧ j < 900 ∧ i < j := by
  obtain ⟨hd, hd6, hR⟩ := hs
  cases k with
  | nil => cases h
  | cons f k =>
    obtain ⟨hh, o, f⟩ := f
    obtain ⟨h10, h11, h12, ⟨ok1, ok2, ok3⟩, hR⟩ := hR
    simp only [fClose] at h ⊢
    split at h
    · rename_i hc
      rw [if_pos hc]
      have h : i + 2 = j := Option.some.inj h
      refine ⟨⟨hd, hd6, h10, h11, ?_, ⟨ok1, ok2, fun y hy => by have : i = y := Option.some.inj hy; omega⟩, RSk_c (z := z) k (fun q hq => ⟨rfl, rfl, ?_⟩) hR⟩, hp, by omega, by omega⟩
      · show upd (z 12) k.length (nI i) k.length = nI i
        rw [pk_us]
      · show upd (z 12) k.length (nI i) q = z 12 q
        rw [pk_un (by omega)]
    · rename_i hc
      rw [if_neg hc]
      have h : i + 1 = j := Option.some.inj h
      have hk : k.length + 1 ≤ 6 := hd6
      refine ⟨⟨?_, Nat.le_of_succ_le hk, RSk_c (z := z) k (fun q hq => ⟨?_, ?_, ?_⟩) hR⟩, PT_c hp ?_ ?_, by omega, by omega⟩
      · show fLk _ _ _ _ _ _ _ 0 15 = _
        rw [fLk_n (by decide) (by decide), clZ_n (by decide)]
        show upd (z 0) 15 (nI k.length) 15 = _
        rw [pk_us]
      · show fLk _ _ _ _ _ _ _ 10 q = _
        rw [fLk_n (by decide) (by decide), clZ_n (by decide)]; rfl
      · show fLk _ _ _ _ _ _ _ 11 q = _
        rw [fLk_n (by decide) (by decide), clZ_n (by decide)]; rfl
      · show fLk _ _ _ _ _ _ _ 12 q = _
        rw [fLk_n (by decide) (by decide), clZ_n (by decide)]; rfl
      · show fLk _ _ _ _ _ _ _ 0 1 = _
        rw [fLk_n (by decide) (by decide), clZ_n (by decide)]; rfl
      · show fLk _ _ _ _ _ _ _ 1 = _
        rw [fLk_n (by decide) (by decide), clZ_n (by decide)]; rfl
theorem fCL_gt {c : Nat → Int32} {i : Nat} : ∀ (k : Nat) (z : Sg) (o : Option Nat), (∀ j, o = some j → i < j) → ∀ j, (fCL c k z o).1 = some j → i < j
  | 0, z, o, h, j, e => h j e
  | k + 1, z, none, h, j, e => by cases e
  | k + 1, z, some q, h, j, e => by
    unfold fCL at e; split at e
    · exact fCL_gt k _ _ (fun j hj => by have := aEnd_le hj; have := h q rfl; omega) j e
    · exact h j e
theorem fWrite_n {c : Nat → Int32} {z : Sg} {i a : Nat} (h2 : a ≠ 2) (h3 : a ≠ 3) (h4 : a ≠ 4) (h5 : a ≠ 5) (h6 : a ≠ 6) (h7 : a ≠ 7) : (fWrite c z i).2 a = z a := by
  unfold fWrite; simp only []
  split
  · rfl
  · split
    · rfl
    · simp [us, h2, h3, h4, h5, h6, h7]
theorem fWrite_b {c : Nat → Int32} {z : Sg} {i j : Nat} (h : (fWrite c z i).1 = some j) : i < j ∧ j ≤ i + 8 := by
  unfold fWrite at h; simp only [] at h
  have a1 := fBeh_le i (fPart c i)
  have a2 := fBeh_gt i (fPart c i)
  have a3 := fBeh_le (fBeh i (fPart c i) + 1) (fVal c (fBeh i (fPart c i) + 1))
  have a4 := fBeh_gt (fBeh i (fPart c i) + 1) (fVal c (fBeh i (fPart c i) + 1))
  split at h
  · cases h
  · split at h
    · cases h
    · have h := Option.some.inj h
      omega
theorem fStmt_PT {t : Nat → Int32} {n : Nat} {z : Sg} {i : Nat} {k : List Fr} (hp : PT z t n) : PT (fStmt (chr t n) z i k).2.1 t n := by
  have hp1 : PT (us z 0 3 (z 0 3 + 1)) t n := hp
  unfold fStmt; split
  · show PT (fOpen _ _ _ _ _).2 t n
    have hq := PT_fCond (c := chr t n) (i := i) hp1
    generalize fCond (chr t n) (us z 0 3 (z 0 3 + 1)) i = q at hq ⊢
    obtain ⟨o, q⟩ := q
    cases o with
    | none => exact hq
    | some j =>
      simp only [fOpen]; split
      · exact hq
      · exact hq
  · split
    · exact hp
    · split
      · exact hp
      · exact PT_c hp1 (congrFun (fWrite_n (by decide) (by decide) (by decide) (by decide) (by decide) (by decide)) 1) (fWrite_n (by decide) (by decide) (by decide) (by decide) (by decide) (by decide))
theorem fClose_PT {t : Nat → Int32} {n : Nat} {z : Sg} {i : Nat} {k : List Fr} (hp : PT z t n) : PT (fClose (chr t n) z i k).2.1 t n := by
  cases k with
  | nil => exact hp
  | cons f k =>
    obtain ⟨hh, o, f⟩ := f
    simp only [fClose]
    split
    · exact hp
    · refine PT_c hp ?_ ?_
      · show fLk _ _ _ _ _ _ _ 0 1 = _
        rw [fLk_n (by decide) (by decide), clZ_n (by decide)]; rfl
      · show fLk _ _ _ _ _ _ _ 1 = _
        rw [fLk_n (by decide) (by decide), clZ_n (by decide)]; rfl
theorem fStmt_ok {t : Nat → Int32} {n : Nat} {z : Sg} {i j : Nat} {k : List Fr} (hp : PT z t n) (hi : i < 64) (hs : PStk z k) (h : (fStmt (chr t n) z i k).1 = some j) : PStk (fStmt (chr t n) z i k).2.1 (fStmt (chr t n) z i k).2.2 ∧ j < 900 ∧ i < j := by
  have hn := hp.2.1
  obtain ⟨hd, hd6, hR⟩ := hs
  unfold fStmt at h ⊢
  split
  · rename_i hc
    rw [if_pos hc] at h
    have e15 : (fCond (chr t n) (us z 0 3 (z 0 3 + 1)) i).2 0 15 = nI k.length := by rw [fCond_n (by decide) (by decide) (by decide) (by decide)]; exact hd
    have e10 : (fCond (chr t n) (us z 0 3 (z 0 3 + 1)) i).2 10 = z 10 := by rw [fCond_n (by decide) (by decide) (by decide) (by decide)]; rfl
    have e11 : (fCond (chr t n) (us z 0 3 (z 0 3 + 1)) i).2 11 = z 11 := by rw [fCond_n (by decide) (by decide) (by decide) (by decide)]; rfl
    have e12 : (fCond (chr t n) (us z 0 3 (z 0 3 + 1)) i).2 12 = z 12 := by rw [fCond_n (by decide) (by decide) (by decide) (by decide)]; rfl
    have hg : ∀ j, (fCond (chr t n) (us z 0 3 (z 0 3 + 1)) i).1 = some j → i < j := fCL_gt _ _ _ (fun j hj => by have := aEnd_le hj; omega)
    generalize fCond (chr t n) (us z 0 3 (z 0 3 + 1)) i = q at h e15 e10 e11 e12 hg ⊢
    obtain ⟨o, q⟩ := q
    cases o with
    | none => cases h
    | some p =>
      have hgp := hg p rfl
      simp only [fOpen] at h ⊢
      split at h
      · rename_i hc2
        rw [if_pos hc2]
        have hpn := chr_lt hc2.1 (by decide)
        have h : p + 1 = j := Option.some.inj h
        refine ⟨⟨?_, ?_, ?_, ?_, ?_, ⟨hgp, by show p < 65; omega, fun y hy => by cases hy⟩, RSk_c (z := z) k (fun m hm => ⟨?_, ?_, ?_⟩) hR⟩, by omega, by omega⟩
        · show upd (q 0) 15 (nI (k.length + 1)) 15 = nI (k.length + 1)
          rw [pk_us]
        · show k.length + 1 ≤ 6
          omega
        · show upd (q 10) k.length (nI i) k.length = nI i
          rw [pk_us]
        · show upd (q 11) k.length (nI p) k.length = nI p
          rw [pk_us]
        · show upd (q 12) k.length (-1) k.length = -1
          rw [pk_us]
        · show upd (q 10) k.length (nI i) m = z 10 m
          rw [pk_un (by omega)]; exact congrFun e10 m
        · show upd (q 11) k.length (nI p) m = z 11 m
          rw [pk_un (by omega)]; exact congrFun e11 m
        · show upd (q 12) k.length (-1) m = z 12 m
          rw [pk_un (by omega)]; exact congrFun e12 m
      · cases h
  · rename_i hc
    rw [if_neg hc] at h
    split
    · rename_i hc2
      rw [if_pos hc2] at h
      have h : (if chr t n (i + 1) = 59 then some (i + 2) else none) = some j := h
      split at h
      · have h := Option.some.inj h
        exact ⟨⟨hd, hd6, RSk_c (z := z) k (fun m hm => ⟨rfl, rfl, rfl⟩) hR⟩, by omega, by omega⟩
      · cases h
    · rename_i hc2
      rw [if_neg hc2] at h
      split
      · rename_i hc3
        rw [if_pos hc3] at h
        have h : (if chr t n (i + 1) = 59 then some (i + 2) else none) = some j := h
        split at h
        · have h := Option.some.inj h
          exact ⟨⟨hd, hd6, RSk_c (z := z) k (fun m hm => ⟨rfl, rfl, rfl⟩) hR⟩, by omega, by omega⟩
        · cases h
      · rename_i hc3
        rw [if_neg hc3] at h
        have hb := fWrite_b h
        refine ⟨⟨?_, hd6, RSk_c (z := z) k (fun m hm => ⟨?_, ?_, ?_⟩) hR⟩, by omega, by omega⟩
        · exact (congrFun (fWrite_n (by decide) (by decide) (by decide) (by decide) (by decide) (by decide)) 15).trans hd
        · exact congrFun (fWrite_n (by decide) (by decide) (by decide) (by decide) (by decide) (by decide)) m
        · exact congrFun (fWrite_n (by decide) (by decide) (by decide) (by decide) (by decide) (by decide)) m
        · exact congrFun (fWrite_n (by decide) (by decide) (by decide) (by decide) (by decide) (by decide)) m
/-- the text, read on from a place -/
def xLoop (c : Nat → Int32) (n : Nat) : Nat → Option Nat → Sg → List Fr → Option Nat × Sg × List Fr
  | 0, o, z, k => (o, z, k)
  | _ + 1, none, z, k => (none, z, k)
  | m + 1, some i, z, k => if i < n then (if c i = 125 then xLoop c n m (fClose c z i k).1 (fClose c z i k).2.1 (fClose c z i k).2.2 else xLoop c n m (fStmt c z i k).1 (fStmt c z i k).2.1 (fStmt c z i k).2.2) else (some i, z, k)
set_option maxRecDepth 100000 in
set_option maxHeartbeats 1000000 in
theorem lp_P_parse (l : Launch) (r : List va_E) {t : Nat → Int32} {n : Nat} (Rt : Option Value → List va_E → Prop) : ∀ (m : Nat) (o : Option Nat) (z : Sg) (k : List Fr), PT z t n → m ≤ 64 → (∀ i, o = some i → i < 900 ∧ PStk z k) →
    (∀ (i : Option Nat) (z' : Sg) (k' : List Fr), (i, z', k') = xLoop (chr t n) n m o z k → PT z' t n → (∀ j, i = some j → j < 900 ∧ PStk z' k') → XW l 5 q_P_parse Rt 70 [(0, .ref 0), (1, .int (oI i))] [] (wP z' r)) →
    XW l 5 q_P_parse Rt 22 [(0, .ref 0), (1, .int (oI o)), (2, .int (nI (64 - m)))] [] (wP z r)
  | 0, o, z, k, hp, hm, hs, K => by
    refine xw_go xcls ok_P_parse 60 [(70, [0, 1])] ?_
    refine And.intro (fun h => ?_) (fun h => absurd (by decide) h)
    exact K o z k rfl hp hs
  | m + 1, o, z, k, hp, hm, hs, K => by
    have hn := hp.2.1
    refine xw_go xcls ok_P_parse 80 [(70, [0, 1]), (22, [0, 1, 2])] ?_
    refine And.intro (fun h => absurd h (by rw [show (64 : Int32) = nI 64 from rfl, nI_le' (by omega) (by omega)]; omega)) (fun h => ?_)
    refine And.intro (fun h2 => ?_) (fun h2 => ?_)
    · cases o with
      | none => exact K none z k rfl hp hs
      | some i => exact absurd h2 (nI_n0 (by have := (hs i rfl).1; omega))
    · cases o with
      | none => exact absurd (by decide) h2
      | some i =>
        obtain ⟨hi, hst⟩ := hs i rfl
        have e64 : nI (64 - (m + 1)) + 1 = nI (64 - m) := by rw [nI_p1]; congr 1; omega
        refine And.intro (fun h3 => ?_) (fun h3 => ?_)
        · have h3 : z 0 1 ≤ nI i := h3
          rw [hp.1, nI_le' (by omega) (by omega)] at h3
          exact K (some i) z k (by simp [xLoop, Nat.not_lt.mpr h3]) hp hs
        · have h3 : ¬ z 0 1 ≤ nI i := h3
          rw [hp.1, nI_le' (by omega) (by omega)] at h3
          have h3 : i < n := Nat.not_le.mp h3
          refine ⟨0, _, _, by decide, c_P_charAt l z r i hp (by omega), ?_⟩
          refine And.intro (fun h4 => ?_) (fun h4 => ?_)
          · refine ⟨4, _, _, by decide, c_P_readStatement l z r i k hp (by omega) hst, ?_⟩
            have ih := lp_P_parse l r Rt m (fStmt (chr t n) z i k).1 (fStmt (chr t n) z i k).2.1 (fStmt (chr t n) z i k).2.2 (fStmt_PT hp) (by omega) (fun j hj => by have := fStmt_ok hp (by omega) hst hj; exact ⟨this.2.1, this.1⟩) (fun i' z' k' e => K i' z' k' (by rw [e]; simp [xLoop, h3, h4]))
            rw [← e64] at ih
            exact ih
          · refine ⟨2, _, _, by decide, c_P_closeBlock l z r i k hp (by omega) hst, ?_⟩
            have ih := lp_P_parse l r Rt m (fClose (chr t n) z i k).1 (fClose (chr t n) z i k).2.1 (fClose (chr t n) z i k).2.2 (fClose_PT hp) (by omega) (fun j hj => by have := fClose_ok hp (by omega) hst hj; exact ⟨this.2.2.1, this.1⟩) (fun i' z' k' e => K i' z' k' (by rw [e]; simp [xLoop, h3, h4]))
            rw [← e64] at ih
            exact ih
/-- the state as reading begins -/
def z0 (z : Sg) : Sg := us (us (uc z 2 (fFill 65 (z 2) 0 65)) 0 3 0) 0 15 0
def xPar (t : Nat → Int32) (n : Nat) (z : Sg) : Option Nat × Sg × List Fr := xLoop (chr t n) n 64 (some 0) (z0 z) []
set_option maxRecDepth 100000 in
set_option maxHeartbeats 1000000 in
theorem c_P_parse (l : Launch) (z : Sg) (r : List va_E) {t : Nat → Int32} {n : Nat} (hp : PT z t n) (ex wy ow : Nat → Nat)
    (hv : (xPar t n z).1 = some n → (xPar t n z).2.2 = [] → (∀ p, chr t n p = 125 → (xPar t n z).2.1 9 p = nI (ex p) ∧ ex p < 65) ∧ (∀ p, p < n → ¬ (xPar t n z).2.1 2 p = 0 → (xPar t n z).2.1 7 p = nI (wy p) ∧ wy p < 900) ∧ (∀ p, p < n → (xPar t n z).2.1 2 p = 5 → (xPar t n z).2.1 8 p = nI (ow p) ∧ ow p < 900)) :
    XMet l 5 q_P_parse [.ref 0] (wP z r) none (wP (if (xPar t n z).1 = some n ∧ (xPar t n z).2.2 = [] then fLd (chr t n) ex wy ow (us (us (xPar t n z).2.1 0 2 1) 2 n 6) n else us (xPar t n z).2.1 0 2 0) r) := by
  have hn := hp.2.1
  generalize hW : (if (xPar t n z).1 = some n ∧ (xPar t n z).2.2 = [] then fLd (chr t n) ex wy ow (us (us (xPar t n z).2.1 0 2 1) 2 n 6) n else us (xPar t n z).2.1 0 2 0) = zz
  refine xm_intro (by decide +kernel) (Nat.le_of_ble_eq_true rfl) ?_
  refine xw_go xcls ok_P_parse 60 [(22, [0, 1, 2])] ?_
  refine ⟨0, _, _, by decide, c_JA_fill l (wP z r) 2 65 (z 2) 0 rfl (by decide), ?_⟩
  refine And.intro trivial ?_
  refine And.intro trivial ?_
  refine lp_P_parse l r _ 64 (some 0) (z0 z) [] hp (by omega) (fun i hi => by cases hi; exact ⟨by omega, rfl, by decide, trivial⟩) (fun i z' k' e hp' hs' => ?_)
  have e : (i, z', k') = xPar t n z := e
  rw [← e] at hW hv
  have tl : ∀ b : Int32, b = (if i = some n ∧ k' = [] then 1 else 0) → XW l 5 q_P_parse (fun a b => a = none ∧ b = wP zz r) 91 [(0, .ref 0)] [.int b, .ref 0] (wP z' r) := by
    intro b hb
    refine xw_go xcls ok_P_parse 60 [] ?_
    by_cases hc : i = some n ∧ k' = []
    · rw [if_pos hc] at hb hW
      subst hb
      refine And.intro (Or.inr rfl) ?_
      refine And.intro (fun q => absurd q (by decide)) (fun q => ?_)
      have hp' : PT (us z' 0 2 1) t n := hp'
      have ez : z' 0 1 = nI n := hp'.1
      refine And.intro (by show vp_in (z' 0 1) 65; rw [ez]; exact in_nI (by omega) (by omega)) ?_
      rw [show (z' 0 1).toNatClampNeg = n by rw [ez, cl_nI (by omega)]]
      obtain ⟨v1, v2, v3⟩ := hv hc.1 hc.2
      have k2 : ∀ p, p < n → us (us z' 0 2 1) 2 n 6 2 p = z' 2 p := fun p hpn => by
        show upd (z' 2) n 6 p = z' 2 p
        rw [pk_un (by omega)]
      refine ⟨2, _, _, by decide, c_P_lead l (us (us z' 0 2 1) 2 n 6) r ex wy ow hp' v1 (fun p h1 h2 => v2 p h1 (by rw [k2 p h1] at h2; exact h2)) (fun p h1 h2 => v3 p h1 (by rw [k2 p h1] at h2; exact h2)), ?_⟩
      exact And.intro rfl ⟨rfl, by rw [← hW]⟩
    · rw [if_neg hc] at hb hW
      subst hb
      refine And.intro (Or.inl rfl) ?_
      refine And.intro (fun q => ?_) (fun q => absurd rfl q)
      exact And.intro rfl ⟨rfl, by rw [← hW]; rfl⟩
  refine xw_go xcls ok_P_parse 60 [(91, [0])] ?_
  have ei : oI i = z' 0 1 ↔ i = some n := by
    rw [hp'.1]
    cases i with
    | none => exact ⟨fun q => absurd q.symm (nI_nm1 (by omega)), fun q => by cases q⟩
    | some j =>
      have := (hs' j rfl).1
      show nI j = nI n ↔ _
      rw [nI_eq' (by omega) (by omega)]
      exact ⟨fun q => by rw [q], fun q => Option.some.inj q⟩
  refine And.intro (fun q => ?_) (fun q => ?_)
  · exact tl 0 (by rw [if_neg (fun c => q (ei.mpr c.1))])
  · have hin := ei.mp q
    have hst := (hs' n hin).2
    have ed : z' 0 15 = 0 ↔ k' = [] := by
      rw [hst.1, show (0 : Int32) = nI 0 from rfl, nI_eq' (by have := hst.2.1; omega) (by omega)]
      exact List.length_eq_zero_iff
    refine And.intro (fun q2 => ?_) (fun q2 => ?_)
    · exact tl 0 (by rw [if_neg (fun c => q2 (ed.mpr c.2))])
    · exact tl 1 (by rw [if_pos ⟨hin, ed.mp q2⟩])
