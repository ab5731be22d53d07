/-! The pure part: blocks open and close; the loops -/
theorem hds_len (k : List Fr) : (hds k).length = k.length := List.length_map _
section Steps2
variable {c : Nat → Int32} {n i : Nat} {z y : Sg} {k : List Fr} {dp : Nat → Nat}
theorem st_open (I : Inv c n i z y k dp) (hn : n ≤ 64) (hc : ∀ i, n ≤ i → c i = 0) (hin : i < n) (hci : c i = 63 ∨ c i = 42) :
    Step c n i ((fOpen c (fCond c (us z 0 3 (z 0 3 + 1)) i).2 k.length i (fCond c (us z 0 3 (z 0 3 + 1)) i).1).1, (fOpen c (fCond c (us z 0 3 (z 0 3 + 1)) i).2 k.length i (fCond c (us z 0 3 (z 0 3 + 1)) i).1).2, fPush i (fCond c (us z 0 3 (z 0 3 + 1)) i).1 (fOpen c (fCond c (us z 0 3 (z 0 3 + 1)) i).2 k.length i (fCond c (us z 0 3 (z 0 3 + 1)) i).1).1 k) (mIf c y i (hds k)) := by
  have L := cd_lock hc i 64 64 (i + 1) (us (us (us z 0 3 (z 0 3 + 1)) 2 i 2) 7 i (nI (i + 1))) (us (us (us y 0 8 (y 0 8 + 1)) 3 i (if c i = 63 then 3 else 4)) 6 i 0) (by omega) (by omega)
  have eF : fCL c 64 (aZ c (us (us (us z 0 3 (z 0 3 + 1)) 2 i 2) 7 i (nI (i + 1))) (i + 1)) (aEnd c (i + 1)) = fCond c (us z 0 3 (z 0 3 + 1)) i := rfl
  rw [eF] at L
  unfold mIf
  generalize fCond c (us z 0 3 (z 0 3 + 1)) i = F at L ⊢
  generalize mCd c i 64 (us (us (us y 0 8 (y 0 8 + 1)) 3 i (if c i = 63 then 3 else 4)) 6 i 0) (i + 1) = G at L ⊢
  obtain ⟨F1, F2⟩ := F
  obtain ⟨G1, G2⟩ := G
  rcases L with ⟨o, w1, w2, b3, w4⟩ | ⟨b1, b2⟩
  · have b1 : F1 = some o := w1
    have b2 : G1 = some (o + 1) := w2
    have b4 : CdE c i 64 (i + 1) (us (us (us z 0 3 (z 0 3 + 1)) 2 i 2) 7 i (nI (i + 1))) (us (us (us y 0 8 (y 0 8 + 1)) 3 i (if c i = 63 then 3 else 4)) 6 i 0) F2 G2 := w4
    clear w1 w2 w4
    subst b1; subst b2
    obtain ⟨hio, hco⟩ := Ch_lt 64 (i + 1) o b3
    have hni : ¬ Cm c 64 (i + 1) i := fun q => by have := Cm_in 64 (i + 1) o i b3 q; omega
    by_cases hk : k.length = 6
    · left
      refine ⟨?_, ?_⟩
      · show (fOpen c F2 k.length i (some o)).1 = none
        simp only [fOpen]; rw [if_neg (fun q => by omega)]
      · show (if (hds k).length = 6 then (none, us G2 5 i (nI (o + 1)), hds k) else _).1 = none
        rw [hds_len, if_pos hk]
    · have hk6 : k.length < 6 := by have := I.2.1; omega
      have hx : fOpen c F2 k.length i (some o) = (some (o + 1), us (us (us (us F2 10 k.length (nI i)) 11 k.length (nI o)) 12 k.length (-1)) 0 15 (nI (k.length + 1))) := by
        simp only [fOpen]; rw [if_pos ⟨hco, hk6⟩]
      show Step c n i ((fOpen c F2 k.length i (some o)).1, (fOpen c F2 k.length i (some o)).2, fPush i (some o) (fOpen c F2 k.length i (some o)).1 k) (if (hds k).length = 6 then (none, us G2 5 i (nI (o + 1)), hds k) else (some (o + 1), us (us (us G2 5 i (nI (o + 1))) 8 (hds k).length (nI i)) 0 9 (nI ((hds k).length + 1)), i :: hds k))
      rw [hx, hds_len, if_neg hk]
      show Step c n i (some (o + 1), us (us (us (us F2 10 k.length (nI i)) 11 k.length (nI o)) 12 k.length (-1)) 0 15 (nI (k.length + 1)), (i, o, none) :: k) (some (o + 1), us (us (us G2 5 i (nI (o + 1))) 8 k.length (nI i)) 0 9 (nI (k.length + 1)), i :: hds k)
      have zF : ∀ e p, 1 ≤ e → e ≤ 9 → us (us (us (us F2 10 k.length (nI i)) 11 k.length (nI o)) 12 k.length (-1)) 0 15 (nI (k.length + 1)) e p = F2 e p := fun e p h1 h2 => by
        rw [us_c (by omega), us_c (by omega), us_c (by omega), us_c (by omega)]
      have yG : ∀ e p, ¬ p = i ∨ ¬ e = 5 → 3 ≤ e → e ≤ 7 → us (us (us G2 5 i (nI (o + 1))) 8 k.length (nI i)) 0 9 (nI (k.length + 1)) e p = G2 e p := fun e p h0 h1 h2 => by
        rw [us_c (by omega), us_c (by omega)]
        rcases h0 with h0 | h0
        · rw [us_p h0]
        · rw [us_c h0]
      refine Step.go (dp' := dp) (by omega) rfl (inv_open I hn hc hci b3 hk6 (fun p e h1 h2 h3 h4 => ?_) (fun p e h1 h2 h3 h4 => ?_) ?_ (fun p hp => ?_) ?_ ?_ ?_ ?_ ?_)
      · rw [zF e p h3 h4, ((b4 p).2.1 h2).1 e, us_p h1, us_p h1, us_c (by omega)]
      · rw [yG e p (Or.inl h1) h3 h4, ((b4 p).2.1 h2).2 e, us_p h1, us_p h1, us_c (by omega)]
      · rw [us_p (by decide), us_c (by decide), us_c (by decide), us_c (by decide), (b4 3).2.2.1 0 (by decide), us_c (by decide), us_c (by decide), us_hit, us_p (by decide), us_c (by decide), us_c (by decide), (b4 8).2.2.2 0 (by decide), us_c (by decide), us_c (by decide), us_hit, I.2.2.1]
      · obtain ⟨d1, d2, d3⟩ := (b4 p).1 hp
        exact ⟨d1.mono (zF 2 p (by decide) (by decide)) (zF 3 p (by decide) (by decide)) (zF 4 p (by decide) (by decide)), by rw [yG 3 p (Or.inr (by decide)) (by decide) (by decide)]; exact d2, by rw [yG 4 p (Or.inr (by decide)) (by decide) (by decide)]; exact d3⟩
      · rw [zF 2 i (by decide) (by decide), ((b4 i).2.1 hni).1 2, us_c (by decide), us_hit]
      · rw [zF 7 i (by decide) (by decide), ((b4 i).2.1 hni).1 7, us_hit]
      · rw [yG 3 i (Or.inr (by decide)) (by decide) (by decide), ((b4 i).2.1 hni).2 3, us_c (by decide), us_hit]
        rcases hci with h | h
        · exact Or.inl ⟨h, by rw [if_pos h]⟩
        · exact Or.inr ⟨h, by rw [h]; rfl⟩
      · rw [us_c (by decide), us_c (by decide), us_hit]
      · rw [yG 6 i (Or.inr (by decide)) (by decide) (by decide), ((b4 i).2.1 hni).2 6, us_hit]
  · have b2 : G1 = none := b2
    subst b2
    left
    refine ⟨?_, rfl⟩
    cases F1 with
    | none => rfl
    | some j =>
      show (fOpen c F2 k.length i (some j)).1 = none
      simp only [fOpen]; rw [if_neg (fun q => b1 j rfl q.1)]
theorem st_close (I : Inv c n i z y k dp) (hn : n ≤ 64) (hc : ∀ i, n ≤ i → c i = 0) (hin : i < n) (hci : c i = 125) : Step c n i (fClose c z i k) (mClose c y i (hds k)) := by
  cases k with
  | nil => exact Or.inl ⟨rfl, rfl⟩
  | cons fr r =>
    obtain ⟨h, o, f⟩ := fr
    have FI := I.2.2.2.2.2.2.2.1
    obtain ⟨f1, f2, f3, f4, f5, f6, f7, f8, f9, f10, f11, f12⟩ := FI
    have hhi : h < i := by omega
    have hCh := I.2.2.2.2.1 h hhi
    have hr3 : (c h = 63 ∧ y 3 h = 3) ∨ (c h = 42 ∧ y 3 h = 4) := by
      rcases hCh with q | q | q | q | q | q
      · rw [f5] at q; exact absurd q.1 (by decide)
      · have := q.1; rw [f5] at this; exact absurd this (by decide)
      · exact q.2.2
      · rw [f5] at q; exact absurd q.1 (by decide)
      · rw [f5] at q; exact absurd q.1 (by decide)
      · have := q.1.1; rw [f5] at this; exact absurd this (by decide)
    have hf6 : f = none ↔ y 6 h = 0 := by
      cases f with
      | none => exact ⟨fun _ => f10, fun _ => rfl⟩
      | some w =>
        refine ⟨(fun q => by cases q), (fun q => ?_)⟩
        have g1 := f10.1
        have g2 := f10.2.1
        rw [q] at g1
        have : (0 : Nat) = w + 2 := (nI_eq' (by omega) (by omega)).mp g1
        omega
    have hiff : (¬ c h = 42 ∧ f = none ∧ c (i + 1) = 123) ↔ (y 3 h = 3 ∧ y 6 h = 0 ∧ c (i + 1) = 123) := by
      rw [hf6]
      have e : ¬ c h = 42 ↔ y 3 h = 3 := by
        rcases hr3 with ⟨q1, q2⟩ | ⟨q1, q2⟩ <;> rw [q1, q2] <;> decide
      rw [e]
    by_cases hE : ¬ c h = 42 ∧ f = none ∧ c (i + 1) = 123
    · obtain ⟨g1, g2, g3⟩ := hE
      subst g2
      have hx : fClose c z i ((h, o, none) :: r) = (some (i + 2), us z 12 r.length (nI i), (h, o, some i) :: r) := by
        simp only [fClose]; rw [if_pos ⟨g1, trivial, g3⟩]
      have hm : mClose c y i (hds ((h, o, none) :: r)) = (some (i + 2), us (us (us (mCl1 y i h (hds r).length) 6 h (nI (i + 2))) 8 (hds r).length (nI h)) 0 9 (nI ((hds r).length + 1)), h :: hds r) := by
        show mClose c y i (h :: hds r) = _
        simp only [mClose]; rw [if_pos (hiff.mp ⟨g1, rfl, g3⟩)]
      rw [hx, hm]
      have hch : c h = 63 := f1.elim id (fun q => absurd q g1)
      refine Step.go (dp' := fu dp i (r.length + 1)) (by omega) rfl (inv_else I hn hc hci g3 hch (fun p e h1 h2 => by rw [us_c (by omega)]) (by rw [us_c (by decide)]) ?_ ?_ (fun p e h0 h1 h2 h3 h4 h5 => ?_) ?_)
      · unfold mCl1
        rw [us_c (by decide), us_c (by decide), us_c (by decide), us_c (by decide), us_hit]
      · rw [us_c (by decide), us_c (by decide), us_hit]
      · unfold mCl1
        rw [us_c (by omega), us_c (by omega), us_e, if_neg h4, us_e, if_neg h5, us_e, if_neg h3, us_c (by omega)]
      · unfold mCl1
        rw [us_p (by decide), us_c (by decide), us_c (by decide), us_c (by decide), us_c (by decide), us_p (by decide)]
    · have hx : fClose c z i ((h, o, f) :: r) = (some (i + 1), fLk c o h (o - 1 - h) (clZ (us (us z 0 15 (nI r.length)) 9 i (nI (if c h = 42 then h + 1 else i + 1))) i f) (o + 1) (clF i f), r) := by
        simp only [fClose]; rw [if_neg hE]
      have hm : mClose c y i (hds ((h, o, f) :: r)) = (some (i + 1), mCl1 y i h (hds r).length, hds r) := by
        show mClose c y i (h :: hds r) = _
        simp only [mClose]; rw [if_neg (fun q => hE (hiff.mpr q))]
      rw [hx, hm]
      have zc : ∀ e p, ¬ e = 9 → ¬ e = 0 → clZ (us (us z 0 15 (nI r.length)) 9 i (nI (if c h = 42 then h + 1 else i + 1))) i f e p = z e p := by
        intro e p h1 h2
        cases f with
        | none => show us (us z 0 15 (nI r.length)) 9 i _ e p = z e p; rw [us_c h1, us_c h2]
        | some w => show us (us (us z 0 15 (nI r.length)) 9 i _) 9 w _ e p = z e p; rw [us_c h1, us_c h1, us_c h2]
      have hwi : ∀ w, f = some w → ¬ w = i := fun w q e => by
        subst q; have := f10.2.1; omega
      have z9i : clZ (us (us z 0 15 (nI r.length)) 9 i (nI (if c h = 42 then h + 1 else i + 1))) i f 9 i = nI (if c h = 42 then h + 1 else i + 1) := by
        cases f with
        | none => exact us_hit
        | some w => show us (us (us z 0 15 (nI r.length)) 9 i _) 9 w _ 9 i = _; rw [us_p (fun q => hwi w rfl q.symm), us_hit]
      have z9w : ∀ w, f = some w → clZ (us (us z 0 15 (nI r.length)) 9 i (nI (if c h = 42 then h + 1 else i + 1))) i f 9 w = nI (i + 1) := by
        intro w q; subst q; exact us_hit
      have z9p : ∀ p, ¬ p = i → ¬ f = some p → clZ (us (us z 0 15 (nI r.length)) 9 i (nI (if c h = 42 then h + 1 else i + 1))) i f 9 p = z 9 p := by
        intro p h1 h2
        cases f with
        | none => show us (us z 0 15 (nI r.length)) 9 i _ 9 p = z 9 p; rw [us_p h1, us_c (by decide)]
        | some w => show us (us (us z 0 15 (nI r.length)) 9 i _) 9 w _ 9 p = z 9 p; rw [us_p (fun q => h2 (by rw [q])), us_p h1, us_c (by decide)]
      have z03 : clZ (us (us z 0 15 (nI r.length)) 9 i (nI (if c h = 42 then h + 1 else i + 1))) i f 0 3 = z 0 3 := by
        cases f with
        | none => show us (us z 0 15 (nI r.length)) 9 i _ 0 3 = z 0 3; rw [us_c (by decide), us_p (by decide)]
        | some w => show us (us (us z 0 15 (nI r.length)) 9 i _) 9 w _ 0 3 = z 0 3; rw [us_c (by decide), us_c (by decide), us_p (by decide)]
      generalize clZ (us (us z 0 15 (nI r.length)) 9 i (nI (if c h = 42 then h + 1 else i + 1))) i f = z1 at zc z9i z9w z9p z03 ⊢
      obtain ⟨z', rr, e1, -, e3⟩ := lk_chain (h := h) (F0 := clF i f) 64 (h + 1) z1 f4 (by omega) (fun q h1 h2 => by rw [zc 2 q (by decide) (by decide)]; exact f8 q (by omega) h2)
      have e0 : fLk c o h (h + 1 - 1 - h) z' (h + 1) rr = z' := by
        rw [show h + 1 - 1 - h = 0 by omega]; rfl
      rw [e1, e0]
      refine Step.go (dp' := fu dp i (r.length + 1)) (by omega) rfl (inv_close I hn hin hci (fun p e h1 h2 => zc e p (by omega) (by omega)) z9p z9i (fun w q _ => z9w w q) z03 e3 ?_ ?_ (fun p e h0 h1 h2 h3 h5 => ?_) ?_)
      · unfold mCl1; rw [us_c (by decide), us_hit]
      · unfold mCl1; rw [us_hit]
      · unfold mCl1; rw [us_e, if_neg h5, us_e, if_neg h3, us_c (by omega)]
      · unfold mCl1; rw [us_c (by decide), us_c (by decide), us_p (by decide)]
theorem st_stmt (I : Inv c n i z y k dp) (hn : n ≤ 64) (hc : ∀ i, n ≤ i → c i = 0) (hin : i < n) (hci : ¬ c i = 125) : Step c n i (fStmt c z i k) (mPart c y i (hds k)) := by
  unfold fStmt mPart
  rw [if_neg hci]
  by_cases h1 : c i = 63 ∨ c i = 42
  · have h2 : ¬ (c i = 33 ∨ c i = 94) := by rcases h1 with h | h <;> rw [h] <;> decide
    rw [if_pos h1, if_neg h2, if_pos h1]
    exact st_open I hn hc hin h1
  · rw [if_neg h1]
    by_cases h2 : c i = 33
    · rw [if_pos h2, if_pos (Or.inl h2), if_pos h2]
      exact st_sign I hn hc hin (Or.inl ⟨h2, rfl, rfl⟩)
    · rw [if_neg h2]
      by_cases h3 : c i = 94
      · rw [if_pos h3, if_pos (Or.inr h3), if_neg h2]
        exact st_sign I hn hc hin (Or.inr ⟨h3, rfl, rfl⟩)
      · rw [if_neg h3, if_neg (fun q => q.elim h2 h3), if_neg h1]
        exact st_write I hn hc hin
end Steps2
/-- both loops end alike -/
theorem lock {c : Nat → Int32} {n : Nat} (hn : n ≤ 64) (hc : ∀ i, n ≤ i → c i = 0) : ∀ (m i : Nat) (z y : Sg) (k : List Fr) (dp : Nat → Nat), Inv c n i z y k dp → n - i ≤ m →
    ((xLoop c n m (some i) z k).1 = some n ∧ (mLoop c n (m + 1) (some i) y (hds k)).1 = some n ∧ (mLoop c n (m + 1) (some i) y (hds k)).2.2 = hds (xLoop c n m (some i) z k).2.2 ∧ ∃ dp', Inv c n n (xLoop c n m (some i) z k).2.1 (mLoop c n (m + 1) (some i) y (hds k)).2.1 (xLoop c n m (some i) z k).2.2 dp') ∨
    ((xLoop c n m (some i) z k).1 = none ∧ (mLoop c n (m + 1) (some i) y (hds k)).1 = none) := by
  have hend : ∀ (i : Nat) (z y : Sg) (k : List Fr) (dp : Nat → Nat), Inv c n i z y k dp → ¬ i < n → ((some i, z, k) : Option Nat × Sg × List Fr).1 = some n ∧ ((some i, y, hds k) : Option Nat × Sg × List Nat).1 = some n ∧ hds k = hds k ∧ ∃ dp', Inv c n n z y k dp' := by
    intro i z y k dp I h
    have e : i = n := by have := I.1; omega
    subst e
    exact ⟨rfl, rfl, rfl, dp, I⟩
  intro m
  induction m with
  | zero =>
    intro i z y k dp I h
    have hi : ¬ i < n := by omega
    have e2 : mLoop c n 1 (some i) y (hds k) = (some i, y, hds k) := by simp only [mLoop, if_neg hi]
    rw [e2]
    exact Or.inl (hend i z y k dp I hi)
  | succ m ih =>
    intro i z y k dp I h
    by_cases hi : i < n
    · have hS : Step c n i (if c i = 125 then fClose c z i k else fStmt c z i k) (mPart c y i (hds k)) := by
        by_cases h5 : c i = 125
        · rw [if_pos h5]
          unfold mPart
          rw [if_pos h5]
          exact st_close I hn hc hi h5
        · rw [if_neg h5]; exact st_stmt I hn hc hi h5
      have e1 : xLoop c n (m + 1) (some i) z k = xLoop c n m (if c i = 125 then fClose c z i k else fStmt c z i k).1 (if c i = 125 then fClose c z i k else fStmt c z i k).2.1 (if c i = 125 then fClose c z i k else fStmt c z i k).2.2 := by
        simp only [xLoop, if_pos hi]
        by_cases h5 : c i = 125
        · simp only [if_pos h5]
        · simp only [if_neg h5]
      have e2 : mLoop c n (m + 1 + 1) (some i) y (hds k) = mLoop c n (m + 1) (mPart c y i (hds k)).1 (mPart c y i (hds k)).2.1 (mPart c y i (hds k)).2.2 := by
        simp only [mLoop, if_pos hi]
      rw [e1, e2]
      generalize (if c i = 125 then fClose c z i k else fStmt c z i k) = X at hS ⊢
      generalize mPart c y i (hds k) = Q at hS ⊢
      obtain ⟨X1, X2, X3⟩ := X
      obtain ⟨Q1, Q2, Q3⟩ := Q
      rcases hS with ⟨s1, s2⟩ | ⟨i', dp', s0, s1, s2, s3, s4⟩
      · have s1 : X1 = none := s1
        have s2 : Q1 = none := s2
        subst s1; subst s2
        right
        refine ⟨?_, by simp only [mLoop]⟩
        cases m with
        | zero => rfl
        | succ m => simp only [xLoop]
      · have s1 : X1 = some i' := s1
        have s2 : Q1 = some i' := s2
        have s3 : Q3 = hds X3 := s3
        subst s1; subst s2; subst s3
        exact ih i' X2 Q2 X3 dp' s4 (by omega)
    · have e1 : xLoop c n (m + 1) (some i) z k = (some i, z, k) := by simp only [xLoop, if_neg hi]
      have e2 : mLoop c n (m + 1 + 1) (some i) y (hds k) = (some i, y, hds k) := by simp only [mLoop, if_neg hi]
      rw [e1, e2]
      exact Or.inl (hend i z y k dp I hi)
