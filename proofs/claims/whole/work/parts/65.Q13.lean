/-! The pure part: the check's work, alike on both sides -/
def KQ (q : KF) (m : ML) : Prop := PK q.1 m.1 m.2.1 ∧ q.2 = m.2.2
theorem bI_c {p q : Prop} [Decidable p] [Decidable q] (h : p ↔ q) : bI p = bI q := by
  unfold bI
  by_cases hp : p
  · rw [if_pos hp, if_pos (h.mp hp)]
  · rw [if_neg hp, if_neg (fun w => hp (h.mpr w))]
theorem bI_t {p : Prop} [Decidable p] (h : p) : bI p = 1 := if_pos h
theorem bI_f {p : Prop} [Decidable p] (h : ¬ p) : bI p = 0 := if_neg h
theorem bI_0 {p : Prop} [Decidable p] : bI p = 0 ↔ ¬ p := by
  unfold bI
  by_cases hp : p
  · rw [if_pos hp]; exact ⟨fun q => absurd q (by decide), fun q => absurd hp q⟩
  · rw [if_neg hp]; exact ⟨fun _ => hp, fun _ => rfl⟩
theorem kq_use {q : KF} {m : ML} {j : Nat} (h : KQ q m) (hj : j < 5) : KQ (cUse (nI j) q) (mUse (nI j) m) := by
  unfold cUse mUse
  refine ⟨h.1.orS hj, ?_⟩
  have t := h.1.tS hj
  by_cases w : hsP m.1 (nI j)
  · rw [if_neg (fun e => t.mp e w), if_pos w]; exact h.2
  · rw [if_pos (t.mpr w), if_neg w, h.2]
theorem val_cases {c : Nat → Int32} {i : Nat} (h : ¬ fVal c i = -1) : (c i = 110 ∧ fVal c i = 3) ∨ (c i = 78 ∧ fVal c i = 4) ∨ (c i = 64 ∧ fVal c i = 5) ∨ (lcP (c i) ∧ fVal c i = 0 ∧ ¬ fdP c (i + 1)) ∨ (lcP (c i) ∧ fVal c i = 1 ∧ fdP c (i + 1) ∧ c (i + 2) = 103) ∨ (lcP (c i) ∧ fVal c i = 2 ∧ fdP c (i + 1) ∧ c (i + 2) = 104 ∧ ¬ c (i + 2) = 103) := by
  by_cases a1 : c i = 110
  · exact Or.inl ⟨a1, by unfold fVal; rw [if_pos a1]⟩
  by_cases a2 : c i = 78
  · exact Or.inr (Or.inl ⟨a2, by unfold fVal; rw [if_neg a1, if_pos a2]⟩)
  by_cases a3 : c i = 64
  · exact Or.inr (Or.inr (Or.inl ⟨a3, by unfold fVal; rw [if_neg a1, if_neg a2, if_pos a3]⟩))
  have e : fVal c i = fPart c i := by unfold fVal; rw [if_neg a1, if_neg a2, if_neg a3]
  rw [e] at h ⊢
  rcases fPart_cases c i with ⟨h1, h2⟩ | ⟨h1, h2, h3⟩ | ⟨h1, h2, h3, h4⟩ | ⟨h1, h2, h3, h4⟩
  · exact absurd h1 h
  · exact Or.inr (Or.inr (Or.inr (Or.inl ⟨h2, h1, fun q => h3 q.1⟩)))
  · exact Or.inr (Or.inr (Or.inr (Or.inr (Or.inl ⟨h2, h1, ⟨h3, Or.inl h4⟩, h4⟩))))
  · exact Or.inr (Or.inr (Or.inr (Or.inr (Or.inr ⟨h2, h1, ⟨h3, Or.inr h4⟩, h4, by rw [h4]; decide⟩))))
theorem lc_110 {x : Int32} (h : x = 110) : ¬ lcP x := by rw [h]; decide
theorem lc_78 {x : Int32} (h : x = 78) : ¬ lcP x := by rw [h]; decide
theorem lc_64n {x : Int32} (h : x = 64) : ¬ lcP x := by rw [h]; decide
theorem kq_take {c : Nat → Int32} {i : Nat} {q : KF} {m : ML} (hv : ¬ fVal c i = -1) (h : KQ q m) : (cTake (fVal c i) (lcI (c i)) q).1 = (mSV c i m).1 ∧ KQ (cTake (fVal c i) (lcI (c i)) q).2 (mSV c i m).2 := by
  unfold cTake mSV
  rcases val_cases hv with ⟨a, b⟩ | ⟨a, b⟩ | ⟨a, b⟩ | ⟨a, b, d⟩ | ⟨a, b, d, e⟩ | ⟨a, b, d, e, e'⟩
  · rw [b, if_neg (by decide), if_neg (by decide), if_neg (by decide), if_neg (by decide), if_neg (by decide), if_pos (lc_110 a), a]
    refine ⟨show (0 : Int32) = bI ((110 : Int32) = 78) from by decide, ?_⟩
    rw [if_neg (by decide)]; exact h
  · rw [b, if_neg (by decide), if_neg (by decide), if_neg (by decide), if_pos rfl, if_pos (lc_78 a), a]
    refine ⟨show (1 : Int32) = bI ((78 : Int32) = 78) from by decide, ?_⟩
    rw [if_neg (by decide)]; exact h
  · rw [b, if_neg (by decide), if_neg (by decide), if_neg (by decide), if_neg (by decide), if_pos rfl, if_pos (lc_64n a), a]
    refine ⟨show (0 : Int32) = bI ((64 : Int32) = 78) from by decide, ?_⟩
    rw [if_pos rfl]; exact ⟨h.1.unl, h.2⟩
  · obtain ⟨j, hj, ej⟩ := lcP_nat a
    rw [b, if_pos rfl, if_neg (fun w => w a), if_pos d, (lcI_lc a).1, ej]
    refine ⟨bI_c ?_, h⟩
    rw [h.1.tS hj, Classical.not_not]
  · obtain ⟨j, hj, ej⟩ := lcP_nat a
    rw [b, if_neg (by decide), if_pos rfl, if_neg (fun w => w a), if_neg (fun w => w d), (lcI_lc a).1, ej]
    exact ⟨(bI_t (Or.inl e)).symm, kq_use h hj⟩
  · obtain ⟨j, hj, ej⟩ := lcP_nat a
    rw [b, if_neg (by decide), if_neg (by decide), if_pos rfl, if_neg (fun w => w a), if_neg (fun w => w d), (lcI_lc a).1, ej]
    refine ⟨bI_c ?_, kq_use h hj⟩
    rw [(kq_use h hj).1.tL hj, Classical.not_not]
    exact ⟨fun w => Or.inr w, fun w => w.elim (fun w => absurd w e') id⟩
theorem val_0 {c : Nat → Int32} {i : Nat} (hv : ¬ fVal c i = -1) : fVal c i = 0 ↔ lcP (c i) ∧ ¬ fdP c (i + 1) := by
  rcases val_cases hv with ⟨a, b⟩ | ⟨a, b⟩ | ⟨a, b⟩ | ⟨a, b, d⟩ | ⟨a, b, d, e⟩ | ⟨a, b, d, e, e'⟩
  · exact ⟨fun w => by rw [b] at w; exact absurd w (by decide), fun w => absurd w.1 (lc_110 a)⟩
  · exact ⟨fun w => by rw [b] at w; exact absurd w (by decide), fun w => absurd w.1 (lc_78 a)⟩
  · exact ⟨fun w => by rw [b] at w; exact absurd w (by decide), fun w => absurd w.1 (lc_64n a)⟩
  · exact ⟨fun _ => ⟨a, d⟩, fun _ => b⟩
  · exact ⟨fun w => by rw [b] at w; exact absurd w (by decide), fun w => absurd d w.2⟩
  · exact ⟨fun w => by rw [b] at w; exact absurd w (by decide), fun w => absurd d w.2⟩
/-- the solid names, as bits and one by one -/
def SolR (so : Int32) (s : Nat → Int32) : Prop := ∀ j, j < 5 → (so &&& sB (nI j) = 0 ↔ s j = 0)
theorem kq_write {c : Nat → Int32} {z y : Sg} {p : Nat} {so : Int32} {s : Nat → Int32} {q : KF} {m : ML} (hW : WrC c z y p) (hs : SolR so s) (h : KQ q m) :
    KQ (cWr (z 3 p) (z 4 p) (z 5 p) (z 6 p) so q) (if y 3 p = 1 then mAs c s p m else mSto c p m) := by
  obtain ⟨-, w2, w3, w4, w5, w6, w7, w8, w9⟩ := hW
  obtain ⟨j, hj, ej⟩ := lcP_nat w3
  rw [w4, w5, w6, w7, w8]
  rcases fPart_cases c p with ⟨h1, -⟩ | ⟨h1, -, h3⟩ | ⟨h1, -, h3, h4⟩ | ⟨h1, -, h3, h4⟩
  · exact absurd h1 w2
  · have e2 : fBeh p (fPart c p) + 1 = p + 2 := by rw [h1, fBeh_0]
    rw [e2] at w9 ⊢
    rw [if_pos h1, if_pos rfl]
    obtain ⟨t1, t2⟩ := kq_take w9 h
    unfold cWr mAs
    rw [if_pos h1, t1, ej, cl_nI (by omega)]
    unfold cWL
    have hso : (¬ bI (¬ so &&& sB (nI j) = 0) = 0 ∧ (mSV c (p + 2) m).1 = 0) ↔ ((mSV c (p + 2) m).1 = 0 ∧ ¬ s j = 0) := by
      rw [bI_0, Classical.not_not, hs j hj]; exact And.comm
    have hl : bI (fVal c (p + 2) = 0 ∧ ¬ (cTake (fVal c (p + 2)) (lcI (c (p + 2))) q).2.1 &&& lB (lcI (c (p + 2))) = 0) = bI (lcP (c (p + 2)) ∧ ¬ fdP c (p + 3) ∧ hsP (mSV c (p + 2) m).2.2.1 (c (p + 2) - 97)) := by
      refine bI_c ?_
      rw [val_0 w9]
      constructor
      · rintro ⟨⟨a, b⟩, d⟩
        obtain ⟨k, hk, ek⟩ := lcP_nat a
        refine ⟨a, b, ?_⟩
        rw [show lB (lcI (c (p + 2))) = lB (nI k) from by rw [(lcI_lc a).1, ek], t2.1.tL hk, Classical.not_not] at d
        rw [ek]; exact d
      · rintro ⟨a, b, d⟩
        obtain ⟨k, hk, ek⟩ := lcP_nat a
        refine ⟨⟨a, b⟩, ?_⟩
        rw [show lB (lcI (c (p + 2))) = lB (nI k) from by rw [(lcI_lc a).1, ek], t2.1.tL hk, Classical.not_not]
        rw [ek] at d; exact d
    rw [hl]
    by_cases hc : (mSV c (p + 2) m).1 = 0 ∧ ¬ s j = 0
    · rw [if_pos hc, if_pos hc, if_pos (hso.mpr hc), if_pos (hso.mpr hc)]
      exact ⟨t2.1.setL hj _, by show _ ||| 2 = _ ||| 2; rw [t2.2]⟩
    · rw [if_neg hc, if_neg hc, if_neg (fun w => hc (hso.mp w)), if_neg (fun w => hc (hso.mp w))]
      exact ⟨(t2.1.setS hj _).setL hj _, t2.2⟩
  · have e2 : fBeh p (fPart c p) + 1 = p + 4 := by rw [h1, fBeh_1]
    rw [e2] at w9 ⊢
    rw [h1, if_neg (by decide)]
    obtain ⟨t1, t2⟩ := kq_take w9 h
    unfold cWr mSto
    have t3 := kq_use t2 hj
    rw [if_neg (by decide), if_neg (by decide), t1, ej, if_pos h4]
    by_cases h0 : (mSV c (p + 4) m).1 = 0
    · rw [if_pos h0, if_pos ⟨h4, h0⟩]
      exact ⟨t3.1, by show _ ||| 2 = _ ||| 2; rw [t3.2]⟩
    · rw [if_neg h0, if_neg (fun w => h0 w.2)]
      exact t3
  · have e2 : fBeh p (fPart c p) + 1 = p + 4 := by rw [h1, fBeh_2]
    rw [e2] at w9 ⊢
    rw [h1, if_neg (by decide)]
    obtain ⟨t1, t2⟩ := kq_take w9 h
    have h5 : ¬ c (p + 2) = 103 := by rw [h4]; decide
    unfold cWr mSto
    have t3 := kq_use t2 hj
    have h6 : ¬ (c (p + 2) = 103 ∧ (mSV c (p + 4) m).1 = 0) := fun w => h5 w.1
    rw [if_neg (by decide), if_pos rfl, t1, ej, if_neg h5, if_neg h6]
    unfold cWF
    by_cases h0 : (mSV c (p + 4) m).1 = 0
    · rw [if_pos h0, if_pos h0]
      exact ⟨t3.1.unl, t3.2⟩
    · rw [if_neg h0, if_neg h0]
      exact ⟨t3.1.orL hj, t3.2⟩
theorem kq_atom {c : Nat → Int32} {z : Sg} {p : Nat} {q : KF} {m : ML} (hA : AtC c z p) (hd : c p = 37 → ¬ c (p + 1) = 46) (h : KQ q m) :
    KQ (cAt (z 3 p) (z 4 p) q).2 (mB1 c p m) ∧ PK ((cAt (z 3 p) (z 4 p) q).2.1 ||| (cAt (z 3 p) (z 4 p) q).1) (mB2 c p (mB1 c p m)).1 (mB2 c p (mB1 c p m)).2.1 ∧ (mB2 c p (mB1 c p m)).2.2 = (mB1 c p m).2.2 := by
  obtain ⟨-, hA⟩ := hA
  rcases hA with ⟨a1, a2⟩ | ⟨a1, a2, a3, a4, a5⟩
  · have en : aNm c p = p := by unfold aNm; rw [if_neg (by rw [a1]; decide)]
    have e1 : mB1 c p m = m := by unfold mB1; rw [en]; exact if_neg (fun w => hd a1 w.1)
    have e2 : mB2 c p m = m := by unfold mB2; rw [en]; exact if_pos a1
    rw [e1, e2, a2]
    unfold cAt
    rw [if_neg (by decide), if_neg (by decide), if_neg (by decide)]
    exact ⟨h, by rw [or_0]; exact h.1, rfl⟩
  · obtain ⟨j, hj, ej⟩ := lcP_nat a3
    have h37 : ¬ c (aNm c p) = 37 := fun w => by rw [w] at a3; exact absurd a3 (by decide)
    rw [a4, a5, ej]
    unfold mB2 mB1 cAt
    rw [if_neg h37, ej]
    rcases fPart_cases c (aNm c p) with ⟨h1, -⟩ | ⟨h1, -, h3⟩ | ⟨h1, -, h3, h4⟩ | ⟨h1, -, h3, h4⟩
    · exact absurd h1 a2
    · have hf : ¬ fdP c (aNm c p + 1) := fun w => h3 w.1
      have hf2 : ¬ (fdP c (aNm c p + 1) ∧ c (aNm c p + 2) = 104) := fun w => hf w.1
      simp only [if_neg hf2, if_neg hf, if_pos h1]
      exact ⟨h, h.1.orS hj, trivial⟩
    · have hf : fdP c (aNm c p + 1) := ⟨h3, Or.inl h4⟩
      have hf2 : ¬ (fdP c (aNm c p + 1) ∧ c (aNm c p + 2) = 104) := fun w => absurd (h4.symm.trans w.2) (by decide)
      have k0 : ¬ (1 : Int32) = 0 := by decide
      rw [h1]
      simp only [if_neg hf2, if_pos hf, if_neg k0, if_true]
      have t := kq_use h hj
      exact ⟨t, by rw [or_0]; exact t.1, trivial⟩
    · have hf : fdP c (aNm c p + 1) := ⟨h3, Or.inr h4⟩
      have hf2 : fdP c (aNm c p + 1) ∧ c (aNm c p + 2) = 104 := ⟨hf, h4⟩
      have k0 : ¬ (2 : Int32) = 0 := by decide
      have k1 : ¬ (2 : Int32) = 1 := by decide
      rw [h1]
      simp only [if_pos hf2, if_pos hf, if_neg k0, if_neg k1, if_true]
      have t := kq_use h hj
      exact ⟨t, t.1.orL hj, trivial⟩
