/-! The pure part: one step of both parses -/
theorem val_some {c : Nat → Int32} {i : Nat} (h : ¬ fVal c i = -1) : mVal c i = some (fBeh i (fVal c i)) ∧ (∀ p, i ≤ p → p < fBeh i (fVal c i) → ¬ c p = 125 ∧ ¬ c p = 0) := by
  unfold fVal at h ⊢
  unfold mVal
  have one : ∀ x : Int32, fBeh i x = i + 1 → c i = 110 ∨ c i = 78 ∨ c i = 64 → (if c i = 110 ∨ c i = 78 ∨ c i = 64 then some (i + 1) else mE c i) = some (fBeh i x) ∧ ∀ p, i ≤ p → p < fBeh i x → ¬ c p = 125 ∧ ¬ c p = 0 := by
    intro x hx hc
    rw [if_pos hc, hx]
    refine ⟨rfl, fun p h1 h2 => ?_⟩
    rw [show p = i by omega]
    rcases hc with h | h | h <;> rw [h] <;> decide
  by_cases h1 : c i = 110
  · rw [if_pos h1]; exact one 3 (if_neg (by decide)) (Or.inl h1)
  · rw [if_neg h1] at h ⊢
    by_cases h2 : c i = 78
    · rw [if_pos h2]; exact one 4 (if_neg (by decide)) (Or.inr (Or.inl h2))
    · rw [if_neg h2] at h ⊢
      by_cases h3 : c i = 64
      · rw [if_pos h3]; exact one 5 (if_neg (by decide)) (Or.inr (Or.inr h3))
      · rw [if_neg h3] at h ⊢
        have hno : ¬ (c i = 110 ∨ c i = 78 ∨ c i = 64) := fun q => q.elim h1 (fun q => q.elim h2 h3)
        rw [if_neg hno]
        exact ⟨(mE_some h).1, fun p q1 q2 => ⟨(part_plain h p q1 q2).2.2.2.1, (part_plain h p q1 q2).1⟩⟩
theorem val_none {c : Nat → Int32} {i : Nat} (h : fVal c i = -1) : mVal c i = none ∨ ∃ q, mVal c i = some q ∧ c q = 46 := by
  unfold fVal at h
  unfold mVal
  by_cases h1 : c i = 110
  · rw [if_pos h1] at h; exact absurd h (by decide)
  · rw [if_neg h1] at h
    by_cases h2 : c i = 78
    · rw [if_pos h2] at h; exact absurd h (by decide)
    · rw [if_neg h2] at h
      by_cases h3 : c i = 64
      · rw [if_pos h3] at h; exact absurd h (by decide)
      · rw [if_neg h3] at h
        rw [if_neg (fun q => q.elim h1 (fun q => q.elim h2 h3))]
        exact mE_none h
theorem mW1_eq {c : Nat → Int32} {i : Nat} (h : ¬ fPart c i = -1) : mW1 c i = fBeh i (fPart c i) := by
  obtain ⟨h1, h2, -⟩ := mE_some h
  unfold mE at h1
  rw [if_pos h2] at h1
  exact Option.some.inj h1
/-- both parses go on alike from i -/
def Step (c : Nat → Int32) (n i : Nat) (X : Option Nat × Sg × List Fr) (Q : Option Nat × Sg × List Nat) : Prop :=
  (X.1 = none ∧ Q.1 = none) ∨ ∃ i' dp', i < i' ∧ X.1 = some i' ∧ Q.1 = some i' ∧ Q.2.2 = hds X.2.2 ∧ Inv c n i' X.2.1 Q.2.1 X.2.2 dp'
theorem Step.go {c : Nat → Int32} {n i i' : Nat} {z' y' : Sg} {k' : List Fr} {ks' : List Nat} {dp' : Nat → Nat} (hi : i < i') (hk : ks' = hds k') (I : Inv c n i' z' y' k' dp') : Step c n i (some i', z', k') (some i', y', ks') := Or.inr ⟨i', dp', hi, rfl, rfl, hk, I⟩
section Steps
variable {c : Nat → Int32} {n i : Nat} {z y : Sg} {k : List Fr} {dp : Nat → Nat}
theorem st_sign (I : Inv c n i z y k dp) (hn : n ≤ 64) (hc : ∀ i, n ≤ i → c i = 0) (hin : i < n) {kd ro : Int32} (hch : (c i = 33 ∧ kd = 3 ∧ ro = 5) ∨ (c i = 94 ∧ kd = 4 ∧ ro = 6)) :
    Step c n i (if c (i + 1) = 59 then some (i + 2) else none, us (us (us z 0 3 (z 0 3 + 1)) 2 i kd) 7 i (nI (i + 2)), k) (if c (i + 1) = 59 then some (i + 2) else none, us (us (us y 0 8 (y 0 8 + 1)) 3 i ro) 7 i (nI (i + 2)), hds k) := by
  by_cases h : c (i + 1) = 59
  · rw [if_pos h]
    have hi1 : i + 1 < n := Nat.not_le.mp (fun q => by rw [hc _ q] at h; exact absurd h (by decide))
    have e2 : us (us (us z 0 3 (z 0 3 + 1)) 2 i kd) 7 i (nI (i + 2)) 2 i = kd := by rw [us_c (by decide), us_hit]
    have e7 : us (us (us z 0 3 (z 0 3 + 1)) 2 i kd) 7 i (nI (i + 2)) 7 i = nI (i + 2) := us_hit
    have f3 : us (us (us y 0 8 (y 0 8 + 1)) 3 i ro) 7 i (nI (i + 2)) 3 i = ro := by rw [us_c (by decide), us_hit]
    refine Step.go (dp' := dp) (by omega) rfl (inv_simple I hn (by omega) (by omega) (fun p e h1 h2 => by rw [us_p h1, us_p h1, us_c (by omega)]) (fun p e h1 h2 => by rw [us_p h1, us_p h1, us_c (by omega)]) ?_ ?_ ?_ ⟨e7, us_hit⟩ (fun p h1 h2 => ?_))
    · show us (us (us z 0 3 (z 0 3 + 1)) 2 i kd) 7 i (nI (i + 2)) 0 3 = us (us (us y 0 8 (y 0 8 + 1)) 3 i ro) 7 i (nI (i + 2)) 0 8
      rw [us_c (by decide), us_c (by decide), us_hit, us_c (by decide), us_c (by decide), us_hit, I.2.2.1]
    · rcases hch with ⟨h1, h2, h3⟩ | ⟨h1, h2, h3⟩
      · exact Or.inr (Or.inr (Or.inr (Or.inl ⟨e2.trans h2, h1, f3.trans h3⟩)))
      · exact Or.inr (Or.inr (Or.inr (Or.inr (Or.inl ⟨e2.trans h2, h1, f3.trans h3, e7⟩))))
    · rcases hch with ⟨h1, h2, h3⟩ | ⟨h1, h2, h3⟩
      · exact Or.inr (Or.inl (e2.trans h2))
      · exact Or.inr (Or.inr (e2.trans h2))
    · rw [show p = i + 1 by omega, h]; decide
  · rw [if_neg h]; exact Or.inl ⟨rfl, rfl⟩
theorem st_write (I : Inv c n i z y k dp) (hn : n ≤ 64) (hc : ∀ i, n ≤ i → c i = 0) (hin : i < n) :
    Step c n i ((fWrite c (us z 0 3 (z 0 3 + 1)) i).1, (fWrite c (us z 0 3 (z 0 3 + 1)) i).2, k) (mWt c y i (hds k)) := by
  unfold mWt
  by_cases hg : fPart c i = -1
  · have hx : (fWrite c (us z 0 3 (z 0 3 + 1)) i).1 = none := by simp only [fWrite, hg]; rfl
    left
    refine ⟨hx, ?_⟩
    have : ¬ lcP (c i) ∨ ¬ c (mW1 c i) = 61 := by
      rcases fPart_cases c i with ⟨-, h2 | h2⟩ | ⟨h1, -⟩ | ⟨h1, -⟩ | ⟨h1, -⟩
      · exact Or.inl h2
      · right
        have hf : ¬ fdP c (i + 1) := fun q => q.2.elim h2.2.2.1 h2.2.2.2
        have e : mW1 c i = i + 1 := if_neg hf
        rw [e, h2.2.1]; decide
      · rw [h1] at hg; exact absurd hg (by decide)
      · rw [h1] at hg; exact absurd hg (by decide)
      · rw [h1] at hg; exact absurd hg (by decide)
    rw [if_pos this]
  · obtain ⟨-, hlc, hfd⟩ := mE_some hg
    have hW := mW1_eq hg
    rw [hW]
    generalize hs : fBeh i (fPart c i) = s
    have hsi : i < s := by rw [← hs]; exact (fBeh_lt _ _).1
    by_cases h61 : c s = 61
    · rw [if_neg (fun q => q.elim (fun q => q hlc) (fun q => q h61))]
      by_cases hv : fVal c (s + 1) = -1
      · have hx : (fWrite c (us z 0 3 (z 0 3 + 1)) i).1 = none := by
          simp only [fWrite, hs, hv]
          rw [if_neg (fun q => q.elim hg (fun q => q h61))]; rfl
        left
        refine ⟨hx, ?_⟩
        rcases val_none hv with h1 | ⟨q, h1, h2⟩
        · rw [h1]
        · rw [h1]
          show (if c q = 59 then some (q + 1) else none) = none
          rw [h2]; rfl
      · obtain ⟨v1, v2⟩ := val_some hv
        rw [v1]
        generalize he : fBeh (s + 1) (fVal c (s + 1)) = e at v2
        have hes : s + 1 < e := by rw [← he]; exact (fBeh_lt _ _).1
        by_cases h59 : c e = 59
        · have hx : fWrite c (us z 0 3 (z 0 3 + 1)) i = (some (e + 1), us (us (us (us (us (us (us z 0 3 (z 0 3 + 1)) 2 i 1) 3 i (lcI (c i))) 4 i (fPart c i)) 5 i (fVal c (s + 1))) 6 i (lcI (c (s + 1)))) 7 i (nI (e + 1))) := by
            simp only [fWrite, hs, he]
            rw [if_neg (fun q => q.elim hg (fun q => q h61)), if_neg (fun q => q.elim hv (fun q => q h59))]
          rw [hx]
          have hen : e < n := Nat.not_le.mp (fun q => by rw [hc _ q] at h59; exact absurd h59 (by decide))
          show Step c n i (some (e + 1), us (us (us (us (us (us (us z 0 3 (z 0 3 + 1)) 2 i 1) 3 i (lcI (c i))) 4 i (fPart c i)) 5 i (fVal c (s + 1))) 6 i (lcI (c (s + 1)))) 7 i (nI (e + 1)), k) ((if c e = 59 then some (e + 1) else none), us (us (us y 0 8 (y 0 8 + 1)) 3 i (if fdP c (i + 1) then 2 else 1)) 7 i (nI (e + 1)), hds k)
          rw [if_pos h59]
          refine Step.go (dp' := dp) (by omega) rfl (inv_simple I hn (by omega) (by omega) (fun p a h1 h2 => by rw [us_p h1, us_p h1, us_p h1, us_p h1, us_p h1, us_p h1, us_c (by omega)]) (fun p a h1 h2 => by rw [us_p h1, us_p h1, us_c (by omega)]) ?_ ?_ ?_ ⟨us_hit, us_hit⟩ (fun p h1 h2 => ?_))
          · show us (us (us (us (us (us (us z 0 3 (z 0 3 + 1)) 2 i 1) 3 i (lcI (c i))) 4 i (fPart c i)) 5 i (fVal c (s + 1))) 6 i (lcI (c (s + 1)))) 7 i (nI (e + 1)) 0 3 = us (us (us y 0 8 (y 0 8 + 1)) 3 i (if fdP c (i + 1) then 2 else 1)) 7 i (nI (e + 1)) 0 8
            rw [us_c (by decide), us_c (by decide), us_c (by decide), us_c (by decide), us_c (by decide), us_c (by decide), us_hit, us_c (by decide), us_c (by decide), us_hit, I.2.2.1]
          · refine Or.inr (Or.inl ⟨?_, hg, hlc, ?_, ?_, ?_, ?_, ?_, by rw [hs]; exact hv⟩)
            · rw [us_c (by decide), us_c (by decide), us_c (by decide), us_c (by decide), us_c (by decide), us_hit]
            · rw [us_c (by decide), us_hit]
              by_cases hf : fdP c (i + 1)
              · rw [if_pos hf, if_neg (fun q => hfd.mp q hf)]
              · rw [if_neg hf, if_pos (hfd.mpr hf)]
            · rw [us_c (by decide), us_c (by decide), us_c (by decide), us_c (by decide), us_hit, (lcI_lc hlc).1]
            · rw [us_c (by decide), us_c (by decide), us_c (by decide), us_hit]
            · rw [us_c (by decide), us_c (by decide), us_hit, hs]
            · rw [us_c (by decide), us_hit, hs]
          · left
            show us (us (us (us (us (us (us z 0 3 (z 0 3 + 1)) 2 i 1) 3 i (lcI (c i))) 4 i (fPart c i)) 5 i (fVal c (s + 1))) 6 i (lcI (c (s + 1)))) 7 i (nI (e + 1)) 2 i = 1
            rw [us_c (by decide), us_c (by decide), us_c (by decide), us_c (by decide), us_c (by decide), us_hit]
          · by_cases q1 : p < s
            · exact (part_plain hg p (by omega) (by rw [hs]; exact q1)).2.2.2.1
            · by_cases q2 : p = s
              · rw [q2, h61]; decide
              · by_cases q3 : p = e
                · rw [q3, h59]; decide
                · exact (v2 p (by omega) (by omega)).1
        · have hx : (fWrite c (us z 0 3 (z 0 3 + 1)) i).1 = none := by
            simp only [fWrite, hs, he]
            rw [if_neg (fun q => q.elim hg (fun q => q h61)), if_pos (Or.inr h59)]
          left
          refine ⟨hx, ?_⟩
          show (if c e = 59 then some (e + 1) else none) = none
          rw [if_neg h59]
    · have hx : (fWrite c (us z 0 3 (z 0 3 + 1)) i).1 = none := by
        simp only [fWrite, hs]
        rw [if_pos (Or.inr h61)]
      rw [if_pos (Or.inr h61)]
      exact Or.inl ⟨hx, rfl⟩
end Steps
