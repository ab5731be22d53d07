/-! The pure part: a state as one number, and as two -/
def bt (x : Int32) (i : Nat) : Bool := x.toBitVec.getLsbD i
theorem bt_ext {x y : Int32} (h : ∀ i, i < 32 → bt x i = bt y i) : x = y := by
  apply Int32.toBitVec_inj.mp
  apply BitVec.eq_of_getLsbD_eq
  intro i hi
  exact h i hi
theorem bt_and (x y : Int32) (i : Nat) : bt (x &&& y) i = (bt x i && bt y i) := by
  unfold bt; rw [Int32.toBitVec_and, BitVec.getLsbD_and]
theorem bt_or (x y : Int32) (i : Nat) : bt (x ||| y) i = (bt x i || bt y i) := by
  unfold bt; rw [Int32.toBitVec_or, BitVec.getLsbD_or]
theorem bt_xor (x y : Int32) (i : Nat) : bt (x ^^^ y) i = (bt x i ^^ bt y i) := by
  unfold bt; rw [Int32.toBitVec_xor, BitVec.getLsbD_xor]
theorem bt_0 (i : Nat) : bt 0 i = false := by unfold bt; exact BitVec.getLsbD_zero
theorem bt_m1 : ∀ i, i < 32 → bt (-1) i = true := by decide
def PK (x s l : Int32) : Prop := ∀ i, i < 32 → bt x i = (if i < 5 then bt s i else if i < 10 then bt l (i - 5) else false) ∧ (5 ≤ i → bt s i = false ∧ bt l i = false)
theorem PK.inj {x s l s' l' : Int32} (h : PK x s l) (h' : PK x s' l') : s = s' ∧ l = l' := by
  constructor
  · apply bt_ext
    intro i hi
    by_cases h5 : i < 5
    · have a := (h i hi).1
      have b := (h' i hi).1
      rw [if_pos h5] at a b
      exact a.symm.trans b
    · rw [((h i hi).2 (by omega)).1, ((h' i hi).2 (by omega)).1]
  · apply bt_ext
    intro i hi
    by_cases h5 : i < 5
    · have a := (h (i + 5) (by omega)).1
      have b := (h' (i + 5) (by omega)).1
      rw [if_neg (by omega), if_pos (by omega), Nat.add_sub_cancel] at a b
      exact a.symm.trans b
    · rw [((h i hi).2 (by omega)).2, ((h' i hi).2 (by omega)).2]
theorem PK.uniq {x x' s l : Int32} (h : PK x s l) (h' : PK x' s l) : x = x' := bt_ext (fun i hi => (h i hi).1.trans (h' i hi).1.symm)
theorem PK.ne {x s l : Int32} (h : PK x s l) : ¬ x = -1 := fun e => by
  have := (h 10 (by decide)).1
  rw [e, if_neg (by decide), if_neg (by decide)] at this
  exact absurd this (by decide)
theorem PK.hi {x s l : Int32} (h : PK x s l) : ∀ i, 10 ≤ i → i < 32 → bt x i = false := fun i h1 h2 => by
  rw [(h i h2).1, if_neg (by omega), if_neg (by omega)]
theorem PK.and {x s l x' s' l' : Int32} (h : PK x s l) (h' : PK x' s' l') : PK (x &&& x') (s &&& s') (l &&& l') := by
  intro i hi
  obtain ⟨a, b⟩ := h i hi
  obtain ⟨a', b'⟩ := h' i hi
  rw [bt_and, bt_and, bt_and, a, a', bt_and]
  refine ⟨?_, fun q => ?_⟩
  · split
    · rfl
    · split <;> rfl
  · rw [(b q).1, (b q).2]; exact ⟨rfl, rfl⟩
theorem PK.or {x s l x' s' l' : Int32} (h : PK x s l) (h' : PK x' s' l') : PK (x ||| x') (s ||| s') (l ||| l') := by
  intro i hi
  obtain ⟨a, b⟩ := h i hi
  obtain ⟨a', b'⟩ := h' i hi
  rw [bt_or, bt_or, bt_or, a, a', bt_or]
  refine ⟨?_, fun q => ?_⟩
  · split
    · rfl
    · split <;> rfl
  · rw [(b q).1, (b q).2, (b' q).1, (b' q).2]; exact ⟨rfl, rfl⟩
theorem PK.cut {x s l x' s' l' : Int32} (h : PK x s l) (h' : PK x' s' l') : PK (x &&& (x' ^^^ -1)) (s &&& (s' ^^^ -1)) (l &&& (l' ^^^ -1)) := by
  intro i hi
  obtain ⟨a, b⟩ := h i hi
  obtain ⟨a', b'⟩ := h' i hi
  rw [bt_and, bt_xor, bt_and, bt_xor, bt_and, bt_xor, a, a', bt_and, bt_xor, bt_m1 i hi]
  refine ⟨?_, fun q => ?_⟩
  · split
    · rfl
    · split
      · rw [bt_m1 (i - 5) (by omega)]
      · rfl
  · rw [(b q).1, (b q).2]; exact ⟨rfl, rfl⟩
theorem and_0m (x : Int32) : x &&& (0 ^^^ -1) = x := bt_ext (fun i hi => by rw [bt_and, bt_xor, bt_0, bt_m1 i hi]; simp)
theorem or_0 (x : Int32) : x ||| 0 = x := bt_ext (fun i _ => by rw [bt_or, bt_0]; simp)
theorem pk_sB : ∀ j, j < 5 → PK (sB (nI j)) (sb (nI j)) 0 := by unfold PK; decide +kernel
theorem pk_lB : ∀ j, j < 5 → PK (lB (nI j)) 0 (sb (nI j)) := by unfold PK; decide +kernel
theorem pk_993 : PK 992 0 31 := by unfold PK; decide +kernel
theorem m993 : (-993 : Int32) = 992 ^^^ -1 := by decide
theorem pk_0 : PK 0 0 0 := by unfold PK; decide +kernel
theorem bt_31 : ∀ i, i < 5 → bt 31 i = true := by decide
theorem PK.unl {x s l : Int32} (h : PK x s l) : PK (x &&& -993) s 0 := by
  have := h.cut pk_993
  rw [← m993, and_0m] at this
  have e : l &&& (31 ^^^ -1) = 0 := bt_ext (fun i hi => by
    rw [bt_and, bt_xor, bt_0, bt_m1 i hi]
    by_cases h5 : i < 5
    · rw [bt_31 i h5]; simp
    · rw [((h i hi).2 (by omega)).2]; rfl)
  rw [e] at this
  exact this
section Bits
variable {x s l : Int32} {j : Nat}
theorem PK.orS (h : PK x s l) (hj : j < 5) : PK (x ||| sB (nI j)) (s ||| sb (nI j)) l := by
  have := h.or (pk_sB j hj); rw [or_0] at this; exact this
theorem PK.orL (h : PK x s l) (hj : j < 5) : PK (x ||| lB (nI j)) s (l ||| sb (nI j)) := by
  have := h.or (pk_lB j hj); rw [or_0] at this; exact this
theorem PK.cutS (h : PK x s l) (hj : j < 5) : PK (x &&& (sB (nI j) ^^^ -1)) (s &&& (sb (nI j) ^^^ -1)) l := by
  have := h.cut (pk_sB j hj); rw [and_0m] at this; exact this
theorem PK.cutL (h : PK x s l) (hj : j < 5) : PK (x &&& (lB (nI j) ^^^ -1)) s (l &&& (sb (nI j) ^^^ -1)) := by
  have := h.cut (pk_lB j hj); rw [and_0m] at this; exact this
theorem PK.setS (h : PK x s l) (hj : j < 5) (on : Int32) : PK (cSet (sB (nI j)) on x) (cSet (sb (nI j)) on s) l := by
  unfold cSet; split
  · exact h.cutS hj
  · exact h.orS hj
theorem PK.setL (h : PK x s l) (hj : j < 5) (on : Int32) : PK (cSet (lB (nI j)) on x) s (cSet (sb (nI j)) on l) := by
  unfold cSet; split
  · exact h.cutL hj
  · exact h.orL hj
theorem bt_sb : ∀ j, j < 5 → ∀ i, i < 32 → bt (sb (nI j)) i = decide (i = j) := by decide +kernel
theorem and_sb (x : Int32) (hj : j < 5) : x &&& sb (nI j) = 0 ↔ bt x j = false := by
  constructor
  · intro h
    have := congrArg (fun w => bt w j) h
    simp only [bt_and, bt_0, bt_sb j hj j (by omega)] at this
    simpa using this
  · intro h
    apply bt_ext
    intro i hi
    rw [bt_and, bt_0, bt_sb j hj i hi]
    by_cases e : i = j
    · rw [e, h]; rfl
    · simp [e]
theorem sh_sm : ∀ j, j < 5 → ((nI j &&& 31).toBitVec.smod 32).toNat = j := by decide +kernel
theorem bt_1 : ∀ i, i < 32 → bt 1 i = decide (i = 0) := by decide
theorem hs_bt (x : Int32) (hj : j < 5) : hsP x (nI j) ↔ bt x j = true := by
  have e : bt (x >>> (nI j &&& 31)) 0 = bt x j := by
    unfold bt
    rw [Int32.toBitVec_shiftRight, BitVec.sshiftRight_eq', sh_sm j hj, BitVec.getLsbD_sshiftRight]
    have h1 : ¬ 32 ≤ 0 := by decide
    have h2 : j + 0 < 32 := by omega
    simp [show j < 32 by omega]
  unfold hsP
  constructor
  · intro h
    have := congrArg (fun w => bt w 0) h
    simp only [bt_and, e, bt_1 0 (by decide)] at this
    simpa using this
  · intro h
    apply bt_ext
    intro i hi
    rw [bt_and, bt_1 i hi]
    by_cases h0 : i = 0
    · rw [h0, e, h]; rfl
    · simp [h0]
theorem hs_and (x : Int32) (hj : j < 5) : hsP x (nI j) ↔ ¬ x &&& sb (nI j) = 0 := by
  rw [hs_bt x hj, and_sb x hj]; cases bt x j <;> simp
theorem PK.tS (h : PK x s l) (hj : j < 5) : x &&& sB (nI j) = 0 ↔ ¬ hsP s (nI j) := by
  have w := h.and (pk_sB j hj)
  have e0 : l &&& 0 = 0 := bt_ext (fun i _ => by rw [bt_and, bt_0]; simp)
  rw [e0] at w
  rw [hs_and s hj, Classical.not_not]
  constructor
  · intro q; rw [q] at w; exact (w.inj pk_0).1
  · intro q; rw [q] at w; exact w.uniq pk_0
theorem PK.tL (h : PK x s l) (hj : j < 5) : x &&& lB (nI j) = 0 ↔ ¬ hsP l (nI j) := by
  have w := h.and (pk_lB j hj)
  have e0 : s &&& 0 = 0 := bt_ext (fun i _ => by rw [bt_and, bt_0]; simp)
  rw [e0] at w
  rw [hs_and l hj, Classical.not_not]
  constructor
  · intro q; rw [q] at w; exact (w.inj pk_0).2
  · intro q; rw [q] at w; exact w.uniq pk_0
end Bits
