/-! The pure part: letters, parts of names, atoms -/
theorem lcP_cases {x : Int32} (h : lcP x) : x = 97 ∨ x = 98 ∨ x = 99 ∨ x = 100 ∨ x = 101 := by
  obtain ⟨h1, h2⟩ := h
  rw [Int32.le_iff_toInt_le] at h1 h2
  have e1 : (97 : Int32).toInt = 97 := by decide
  have e2 : (101 : Int32).toInt = 101 := by decide
  rw [e1] at h1; rw [e2] at h2
  have : x.toInt = 97 ∨ x.toInt = 98 ∨ x.toInt = 99 ∨ x.toInt = 100 ∨ x.toInt = 101 := by omega
  rcases this with h | h | h | h | h
  · exact Or.inl (Int32.toInt_inj.mp (h.trans (by decide)))
  · exact Or.inr (Or.inl (Int32.toInt_inj.mp (h.trans (by decide))))
  · exact Or.inr (Or.inr (Or.inl (Int32.toInt_inj.mp (h.trans (by decide)))))
  · exact Or.inr (Or.inr (Or.inr (Or.inl (Int32.toInt_inj.mp (h.trans (by decide))))))
  · exact Or.inr (Or.inr (Or.inr (Or.inr (Int32.toInt_inj.mp (h.trans (by decide))))))
theorem lcP_ne {x y : Int32} (h : lcP x) (hy : ¬ lcP y) : ¬ x = y := fun e => hy (e ▸ h)
theorem lcI_lc {x : Int32} (h : lcP x) : lcI x = x - 97 ∧ ¬ lcI x = -1 := by
  have e : lcI x = x - 97 := if_pos h
  refine ⟨e, ?_⟩
  rw [e]
  rcases lcP_cases h with h | h | h | h | h <;> rw [h] <;> decide
theorem lcI_n {x : Int32} (h : ¬ lcP x) : lcI x = -1 := if_neg h
theorem lcP_nat {x : Int32} (h : lcP x) : ∃ j, j < 5 ∧ x - 97 = nI j := by
  rcases lcP_cases h with h | h | h | h | h <;> rw [h]
  · exact ⟨0, by decide, by decide⟩
  · exact ⟨1, by decide, by decide⟩
  · exact ⟨2, by decide, by decide⟩
  · exact ⟨3, by decide, by decide⟩
  · exact ⟨4, by decide, by decide⟩
theorem fPart_cases (c : Nat → Int32) (k : Nat) : (fPart c k = -1 ∧ (¬ lcP (c k) ∨ (lcP (c k) ∧ c (k + 1) = 46 ∧ ¬ c (k + 2) = 103 ∧ ¬ c (k + 2) = 104))) ∨ (fPart c k = 0 ∧ lcP (c k) ∧ ¬ c (k + 1) = 46) ∨ (fPart c k = 1 ∧ lcP (c k) ∧ c (k + 1) = 46 ∧ c (k + 2) = 103) ∨ (fPart c k = 2 ∧ lcP (c k) ∧ c (k + 1) = 46 ∧ c (k + 2) = 104) := by
  unfold fPart
  by_cases h : lcP (c k)
  · rw [if_neg (lcI_lc h).2]
    by_cases h1 : c (k + 1) = 46
    · rw [if_pos h1]
      by_cases h2 : c (k + 2) = 103
      · rw [if_pos h2]; exact Or.inr (Or.inr (Or.inl ⟨rfl, h, h1, h2⟩))
      · rw [if_neg h2]
        by_cases h3 : c (k + 2) = 104
        · rw [if_pos h3]; exact Or.inr (Or.inr (Or.inr ⟨rfl, h, h1, h3⟩))
        · rw [if_neg h3]; exact Or.inl ⟨rfl, Or.inr ⟨h, h1, h2, h3⟩⟩
    · rw [if_neg h1]; exact Or.inr (Or.inl ⟨rfl, h, h1⟩)
  · rw [if_pos (lcI_n h)]; exact Or.inl ⟨rfl, Or.inl h⟩
theorem fBeh_0 (i : Nat) : fBeh i 0 = i + 1 := if_neg (by decide)
theorem fBeh_1 (i : Nat) : fBeh i 1 = i + 3 := if_pos (by decide)
theorem fBeh_2 (i : Nat) : fBeh i 2 = i + 3 := if_pos (by decide)
/-- a name or a field, read alike -/
theorem mE_some {c : Nat → Int32} {k : Nat} (h : ¬ fPart c k = -1) : mE c k = some (fBeh k (fPart c k)) ∧ lcP (c k) ∧ (fPart c k = 0 ↔ ¬ fdP c (k + 1)) := by
  unfold mE
  rcases fPart_cases c k with ⟨h1, h2⟩ | ⟨h1, h2, h3⟩ | ⟨h1, h2, h3, h4⟩ | ⟨h1, h2, h3, h4⟩
  · exact absurd h1 h
  · have hf : ¬ fdP c (k + 1) := fun q => h3 q.1
    rw [h1, fBeh_0, if_pos h2, if_neg hf]
    exact ⟨rfl, h2, fun _ => hf, fun _ => rfl⟩
  · have hf : fdP c (k + 1) := ⟨h3, Or.inl h4⟩
    rw [h1, fBeh_1, if_pos h2, if_pos hf]
    exact ⟨rfl, h2, fun q => absurd q (by decide), fun q => absurd hf q⟩
  · have hf : fdP c (k + 1) := ⟨h3, Or.inr h4⟩
    rw [h1, fBeh_2, if_pos h2, if_pos hf]
    exact ⟨rfl, h2, fun q => absurd q (by decide), fun q => absurd hf q⟩
theorem mE_none {c : Nat → Int32} {k : Nat} (h : fPart c k = -1) : mE c k = none ∨ ∃ j, mE c k = some j ∧ c j = 46 := by
  unfold mE
  rcases fPart_cases c k with ⟨h1, h2 | h2⟩ | ⟨h1, h2, h3⟩ | ⟨h1, h2, h3, h4⟩ | ⟨h1, h2, h3, h4⟩
  · exact Or.inl (if_neg h2)
  · right
    have hf : ¬ fdP c (k + 1) := fun q => q.2.elim h2.2.2.1 h2.2.2.2
    rw [if_pos h2.1, if_neg hf]
    exact ⟨k + 1, rfl, h2.2.1⟩
  · rw [h1] at h; exact absurd h (by decide)
  · rw [h1] at h; exact absurd h (by decide)
  · rw [h1] at h; exact absurd h (by decide)
/-- letters that stand inside names and fields -/
def plain (x : Int32) : Prop := ¬ x = 0 ∧ ¬ x = 38 ∧ ¬ x = 124 ∧ ¬ x = 125 ∧ ¬ x = 123 ∧ ¬ x = 59
theorem plain_lc {x : Int32} (h : lcP x) : plain x := by
  unfold plain
  rcases lcP_cases h with h | h | h | h | h <;> rw [h] <;> decide
theorem part_plain {c : Nat → Int32} {k : Nat} (h : ¬ fPart c k = -1) : ∀ p, k ≤ p → p < fBeh k (fPart c k) → plain (c p) := by
  intro p hp hq
  rcases fPart_cases c k with ⟨h1, h2⟩ | ⟨h1, h2, h3⟩ | ⟨h1, h2, h3, h4⟩ | ⟨h1, h2, h3, h4⟩
  · exact absurd h1 h
  · rw [h1, fBeh_0] at hq
    rw [show p = k by omega]; exact plain_lc h2
  · rw [h1, fBeh_1] at hq
    rcases (show p = k ∨ p = k + 1 ∨ p = k + 2 by omega) with e | e | e <;> rw [e]
    · exact plain_lc h2
    · rw [h3]; unfold plain; decide
    · rw [h4]; unfold plain; decide
  · rw [h1, fBeh_2] at hq
    rcases (show p = k ∨ p = k + 1 ∨ p = k + 2 by omega) with e | e | e <;> rw [e]
    · exact plain_lc h2
    · rw [h3]; unfold plain; decide
    · rw [h4]; unfold plain; decide
theorem fBeh_lt (i : Nat) (k : Int32) : i < fBeh i k ∧ fBeh i k ≤ i + 3 := by
  unfold fBeh
  split <;> omega
theorem aNm_le (c : Nat → Int32) (i : Nat) : i ≤ aNm c i ∧ aNm c i ≤ i + 1 := by
  unfold aNm
  split <;> omega
/-- atoms, read alike -/
theorem atm_some {c : Nat → Int32} {i j : Nat} (h : aEnd c i = some j) : mAtm c i = some j ∧ i < j ∧ (∀ p, i ≤ p → p < j → plain (c p)) ∧ ((c i = 37 ∧ j = i + 1) ∨ (¬ c i = 37 ∧ ¬ fPart c (aNm c i) = -1 ∧ lcP (c (aNm c i)) ∧ j = fBeh (aNm c i) (fPart c (aNm c i)))) := by
  unfold aEnd at h
  unfold mAtm
  by_cases h1 : c i = 37
  · rw [if_pos h1] at h ⊢
    have h := Option.some.inj h
    subst h
    refine ⟨rfl, by omega, fun p h2 h3 => ?_, Or.inl ⟨h1, rfl⟩⟩
    rw [show p = i by omega, h1]; unfold plain; decide
  · rw [if_neg h1] at h ⊢
    by_cases h2 : fPart c (aNm c i) = -1
    · rw [if_pos h2] at h; cases h
    · rw [if_neg h2] at h
      have h := Option.some.inj h
      subst h
      obtain ⟨e1, e2, -⟩ := mE_some h2
      have a1 := aNm_le c i
      have a2 := fBeh_lt (aNm c i) (fPart c (aNm c i))
      refine ⟨e1, by omega, fun p h3 h4 => ?_, Or.inr ⟨h1, h2, e2, rfl⟩⟩
      by_cases h5 : aNm c i ≤ p
      · exact part_plain h2 p h5 h4
      · have h6 : aNm c i = i + 1 := by omega
        have h7 : c i = 126 := by
          unfold aNm at h6
          by_cases h8 : c i = 126
          · exact h8
          · rw [if_neg h8] at h6; omega
        rw [show p = i by omega, h7]; unfold plain; decide
theorem atm_none {c : Nat → Int32} {i : Nat} (h : aEnd c i = none) : mAtm c i = none ∨ ∃ j, mAtm c i = some j ∧ c j = 46 := by
  unfold aEnd at h
  unfold mAtm
  by_cases h1 : c i = 37
  · rw [if_pos h1] at h; cases h
  · rw [if_neg h1] at h ⊢
    by_cases h2 : fPart c (aNm c i) = -1
    · exact mE_none h2
    · rw [if_neg h2] at h; cases h
/-- a chain of atoms from a to the brace at o -/
def Ch (c : Nat → Int32) : Nat → Nat → Nat → Prop
  | 0, _, _ => False
  | f + 1, a, o => ∃ j, aEnd c a = some j ∧ ((j = o ∧ c o = 123) ∨ ((c j = 38 ∨ c j = 124) ∧ Ch c f (j + 1) o))
def Cm (c : Nat → Int32) : Nat → Nat → Nat → Prop
  | 0, _, _ => False
  | f + 1, a, q => q = a ∨ ∃ j, aEnd c a = some j ∧ (c j = 38 ∨ c j = 124) ∧ Cm c f (j + 1) q
theorem Ch_lt {c : Nat → Int32} : ∀ (f a o : Nat), Ch c f a o → a < o ∧ c o = 123
  | 0, _, _, h => h.elim
  | f + 1, a, o, ⟨j, h1, h2⟩ => by
    have h3 := (atm_some h1).2.1
    rcases h2 with ⟨h4, h5⟩ | ⟨h4, h5⟩
    · exact ⟨by omega, h5⟩
    · have := Ch_lt f (j + 1) o h5
      exact ⟨by omega, this.2⟩
/-- what a chain's letters are not -/
def semi (x : Int32) : Prop := ¬ x = 0 ∧ ¬ x = 125 ∧ ¬ x = 123 ∧ ¬ x = 59
theorem semi_p {x : Int32} (h : plain x) : semi x := ⟨h.1, h.2.2.2.1, h.2.2.2.2.1, h.2.2.2.2.2⟩
theorem Ch_semi {c : Nat → Int32} : ∀ (f a o : Nat), Ch c f a o → ∀ p, a ≤ p → p < o → semi (c p)
  | 0, _, _, h => h.elim
  | f + 1, a, o, ⟨j, h1, h2⟩ => by
    intro p hp hq
    obtain ⟨-, h3, h4, -⟩ := atm_some h1
    rcases h2 with ⟨h5, h6⟩ | ⟨h5, h6⟩
    · exact semi_p (h4 p hp (by omega))
    · by_cases h7 : p < j
      · exact semi_p (h4 p hp h7)
      · by_cases h8 : p = j
        · rw [h8]; rcases h5 with h | h <;> rw [h] <;> (unfold semi; decide)
        · exact Ch_semi f (j + 1) o h6 p (by omega) hq
theorem Cm_in {c : Nat → Int32} : ∀ (f a o q : Nat), Ch c f a o → Cm c f a q → a ≤ q ∧ q < o
  | 0, _, _, _, h, _ => h.elim
  | f + 1, a, o, q, ⟨j, h1, h2⟩, hm => by
    have h3 := (atm_some h1).2.1
    have h4 := Ch_lt (f + 1) a o ⟨j, h1, h2⟩
    rcases hm with rfl | ⟨j', h5, h6, h7⟩
    · omega
    · have e : j' = j := Option.some.inj (h5.symm.trans h1)
      subst e
      rcases h2 with ⟨h8, h9⟩ | ⟨h8, h9⟩
      · rw [h8] at h6; rw [h9] at h6; exact absurd h6 (by decide)
      · have := Cm_in f (j' + 1) o q h9 h7
        omega
theorem Cm_a {c : Nat → Int32} {f a o : Nat} (h : Ch c f a o) : Cm c f a a := by
  cases f with
  | zero => exact h.elim
  | succ f => exact Or.inl rfl
theorem Cm_atm {c : Nat → Int32} : ∀ (f a o q : Nat), Ch c f a o → Cm c f a q → ∃ j, aEnd c q = some j ∧ j ≤ o
  | 0, _, _, _, h, _ => h.elim
  | f + 1, a, o, q, ⟨j, h1, h2⟩, hm => by
    rcases hm with rfl | ⟨j', h5, h6, h7⟩
    · refine ⟨j, h1, ?_⟩
      rcases h2 with ⟨h8, h9⟩ | ⟨h8, h9⟩
      · omega
      · have := Ch_lt f (j + 1) o h9; omega
    · have e : j' = j := Option.some.inj (h5.symm.trans h1)
      subst e
      rcases h2 with ⟨h8, h9⟩ | ⟨h8, h9⟩
      · rw [h8] at h6; rw [h9] at h6; exact absurd h6 (by decide)
      · exact Cm_atm f (j' + 1) o q h9 h7
