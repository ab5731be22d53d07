/-! The pure part: the whole text; ways out of blocks -/
theorem chr_0 (t : Nat → Int32) (n : Nat) : ∀ i, n ≤ i → chr t n i = 0 := fun i h => if_neg (by omega)
theorem inv_0 (c : Nat → Int32) (n : Nat) (z y : Sg) : Inv c n 0 (z0 z) (y0 y) [] (fun _ => 0) := by
  have ez : ∀ p, p < 65 → z0 z 2 p = 0 := fun p hp => by
    unfold z0
    rw [us_c (by decide), us_c (by decide), uc_s]; exact if_pos hp
  have ey : ∀ p, p < 65 → y0 y 3 p = 0 := fun p hp => by
    unfold y0
    rw [us_c (by decide), us_c (by decide), uc_s]; exact if_pos hp
  refine ⟨Nat.zero_le _, Nat.zero_le _, ?_, fun p _ hp => ⟨ez p hp, ey p hp⟩, fun p h => absurd h (Nat.not_lt_zero _), fun p h => absurd h (Nat.not_lt_zero _), fun p h => absurd h (Nat.not_lt_zero _), trivial, fun p h => absurd h (Nat.not_lt_zero _), fun p h => absurd h (Nat.not_lt_zero _)⟩
  unfold z0 y0
  rw [us_p (by decide), us_hit, us_p (by decide), us_hit]
/-- both parses of one text -/
theorem par_lock (t : Nat → Int32) (n : Nat) (hn : n ≤ 64) (z y : Sg) :
    (((xPar t n z).1 = some n ∧ (xPar t n z).2.2 = []) ∧ mOk t n y ∧ ∃ dp, Inv (chr t n) n n (xPar t n z).2.1 (mPar t n y).2.1 [] dp) ∨ (¬ ((xPar t n z).1 = some n ∧ (xPar t n z).2.2 = []) ∧ ¬ mOk t n y) := by
  have L := lock hn (chr_0 t n) 64 0 (z0 z) (y0 y) [] (fun _ => 0) (inv_0 (chr t n) n z y) (by omega)
  have e1 : xLoop (chr t n) n 64 (some 0) (z0 z) [] = xPar t n z := rfl
  have e2 : mLoop (chr t n) n (64 + 1) (some 0) (y0 y) (hds []) = mPar t n y := rfl
  rw [e1, e2] at L
  rcases L with ⟨h1, h2, h3, dp, h4⟩ | ⟨h1, h2⟩
  · by_cases hk : (xPar t n z).2.2 = []
    · rw [hk] at h3 h4
      exact Or.inl ⟨⟨h1, hk⟩, ⟨by rw [h2]; rfl, h3⟩, dp, h4⟩
    · refine Or.inr ⟨fun q => hk q.2, fun q => hk ?_⟩
      have q2 := q.2
      rw [h3] at q2
      exact List.map_eq_nil_iff.mp q2
  · refine Or.inr ⟨(fun q => by rw [h1] at q; cases q.1), (fun q => ?_)⟩
    have := q.1
    rw [h2] at this; cases this
def exF (Z : Sg) (p : Nat) : Nat := (Z 9 p).toNatClampNeg
def wyF (Z : Sg) (p : Nat) : Nat := (Z 7 p).toNatClampNeg
def owF (Z : Sg) (p : Nat) : Nat := (Z 8 p).toNatClampNeg
theorem fOut_n {c : Nat → Int32} {ex : Nat → Nat} {a : Nat} (h : ¬ c a = 125) : ∀ f, fOut c ex f a = a
  | 0 => rfl
  | f + 1 => if_neg h
section Final
variable {c : Nat → Int32} {n : Nat} {Z Y : Sg} {dp : Nat → Nat}
theorem fin_125 (hc : ∀ i, n ≤ i → c i = 0) {p : Nat} (h : c p = 125) : p < n := Nat.not_le.mp (fun q => by rw [hc p q] at h; exact absurd h (by decide))
theorem con_0 {p : Nat} (h : Con c Z Y p) (h0 : Z 2 p = 0) : Y 3 p = 0 := by
  rcases h with h | h | h | h | h | h
  · exact h.2
  · have := h.1; rw [h0] at this; exact absurd this (by decide)
  · have := h.1; rw [h0] at this; exact absurd this (by decide)
  · have := h.1; rw [h0] at this; exact absurd this (by decide)
  · have := h.1; rw [h0] at this; exact absurd this (by decide)
  · have := h.1.1; rw [h0] at this; exact absurd this (by decide)
theorem con_2 {p : Nat} (h : Con c Z Y p) (h0 : Z 2 p = 2) : Z 7 p = nI (p + 1) ∧ ((c p = 63 ∧ Y 3 p = 3) ∨ (c p = 42 ∧ Y 3 p = 4)) := by
  rcases h with h | h | h | h | h | h
  · have := h.1; rw [h0] at this; exact absurd this (by decide)
  · have := h.1; rw [h0] at this; exact absurd this (by decide)
  · exact h.2
  · have := h.1; rw [h0] at this; exact absurd this (by decide)
  · have := h.1; rw [h0] at this; exact absurd this (by decide)
  · have := h.1.1; rw [h0] at this; exact absurd this (by decide)
/-- a landing place that is no brace -/
theorem out_here (I : Inv c n n Z Y [] dp) (hc : ∀ i, n ≤ i → c i = 0) {a : Nat} (hL : Land c n Z a) (h5 : ¬ c a = 125) : (∀ f, fOut c (exF Z) f a = a) ∧ (∀ g, 0 < g → Go (us Y 3 n 8 3) (us Y 3 n 8 4) (us Y 3 n 8 7) n g a a) ∧ a ≤ n ∧ ¬ us Z 2 n 6 2 a = 0 := by
  have hro : 0 < us Y 3 n 8 3 a ∧ ¬ us Z 2 n 6 2 a = 0 := by
    by_cases ha : a = n
    · subst ha; rw [us_hit, us_hit]; decide
    · have hl : a < n := by have := hL.1; omega
      rw [us_p ha, us_p ha]
      have h2 := (hL.2 hl).elim (fun q => absurd q h5) id
      exact ⟨((I.2.2.2.2.1 a hl).n125 h2).2, h2⟩
  refine ⟨fOut_n h5, fun g hg => ?_, hL.1, hro.2⟩
  cases g with
  | zero => omega
  | succ g => exact ⟨hL.1, Or.inl ⟨hro.1, rfl⟩⟩
theorem out_ok (I : Inv c n n Z Y [] dp) (hn : n ≤ 64) (hc : ∀ i, n ≤ i → c i = 0) : ∀ (d a : Nat), Land c n Z a → (c a = 125 → dp a ≤ d) → ∃ r, (∀ f, d ≤ f → fOut c (exF Z) f a = r) ∧ (∀ g, d < g → Go (us Y 3 n 8 3) (us Y 3 n 8 4) (us Y 3 n 8 7) n g a r) ∧ r ≤ n ∧ ¬ us Z 2 n 6 2 r = 0 ∧ ¬ c r = 125 := by
  intro d
  induction d with
  | zero =>
    intro a hL hd
    have h5 : ¬ c a = 125 := fun q => by
      have := (I.2.2.2.2.2.2.2.2.1 a (fin_125 hc q) q).2.1.1
      have := hd q; omega
    obtain ⟨h1, h2, h3, h4⟩ := out_here I hc hL h5
    exact ⟨a, fun f _ => h1 f, h2, h3, h4, h5⟩
  | succ d ih =>
    intro a hL hd
    by_cases h5 : c a = 125
    · have ha := fin_125 hc h5
      obtain ⟨b1, b2, b3⟩ := I.2.2.2.2.2.2.2.2.1 a ha h5
      have hy3 : ¬ 0 < us Y 3 n 8 3 a := by
        rw [us_p (by omega), con_0 (I.2.2.2.2.1 a ha) b1]; decide
      rcases b3 with ⟨fr, w, -⟩ | ⟨h, o, e, f, -, g2, g3, g4, g5⟩
      · cases w
      · have hhn : h < n := by have := g2.2.1; have := g2.2.2.1; omega
        have hy4 : us Y 3 n 8 4 a = nI h := by rw [us_c (by decide)]; exact g3
        have h2 := con_2 (I.2.2.2.2.1 h hhn) g2.2.2.2.2.1
        have hro : us Y 3 n 8 3 h = Y 3 h := us_p (by omega)
        by_cases hl : c h = 42
        · have hr4 : us Y 3 n 8 3 h = 4 := by
            rw [hro]; rcases h2.2 with ⟨q, _⟩ | ⟨_, q⟩
            · rw [hl] at q; exact absurd q (by decide)
            · exact q
          have h7 := I.2.2.2.2.2.2.1 h hhn g2.2.2.2.2.1
          have hn5 : ¬ c (h + 1) = 125 := ((I.2.2.2.2.1 (h + 1) h7.2).n125 (by rw [h7.1]; decide)).1
          have hex : exF Z a = h + 1 := by
            unfold exF; rw [g4, if_pos hl]; exact cl_nI (by omega)
          refine ⟨h + 1, fun f hf => ?_, fun g hg => ?_, by omega, ?_, hn5⟩
          · cases f with
            | zero => omega
            | succ f => simp only [fOut, if_pos h5, hex]; exact fOut_n hn5 f
          · cases g with
            | zero => omega
            | succ g => exact ⟨by omega, Or.inr ⟨hy3, h, by omega, hy4, Or.inl ⟨hr4, rfl⟩⟩⟩
          · rw [us_p (by omega), h7.1]; decide
        · have hr3 : ¬ us Y 3 n 8 3 h = 4 := by
            rw [hro]; rcases h2.2 with ⟨_, q⟩ | ⟨q, _⟩
            · rw [q]; decide
            · exact absurd q hl
          have hbh : us Y 3 n 8 7 h = nI e := by rw [us_c (by decide)]; exact g2.2.2.2.2.2.2.2.1
          have hLe := g2.2.2.2.2.2.2.2.2.1
          have hex : exF Z a = e := by
            unfold exF; rw [g4, if_neg hl]; exact cl_nI (by have := hLe.1; omega)
          obtain ⟨r, r1, r2, r3, r4, r5⟩ := ih e hLe (fun q => by
            have := (g5 hl).2 (fin_125 hc q) q
            have := hd h5
            omega)
          refine ⟨r, fun f hf => ?_, fun g hg => ?_, r3, r4, r5⟩
          · cases f with
            | zero => omega
            | succ f => simp only [fOut, if_pos h5, hex]; exact r1 f (by omega)
          · cases g with
            | zero => omega
            | succ g => exact ⟨by omega, Or.inr ⟨hy3, h, by omega, hy4, Or.inr ⟨hr3, e, hbh, r2 g (by omega)⟩⟩⟩
    · obtain ⟨h1, h2, h3, h4⟩ := out_here I hc hL h5
      exact ⟨a, fun f _ => h1 f, fun g _ => h2 g (by omega), h3, h4, h5⟩
/-- out of blocks: both alike -/
theorem out_6 (I : Inv c n n Z Y [] dp) (hn : n ≤ 64) (hc : ∀ i, n ≤ i → c i = 0) {a : Nat} (hL : Land c n Z a) : Go (us Y 3 n 8 3) (us Y 3 n 8 4) (us Y 3 n 8 7) n 65 a (fOut c (exF Z) 6 a) ∧ fOut c (exF Z) 6 a ≤ n ∧ ¬ us Z 2 n 6 2 (fOut c (exF Z) 6 a) = 0 := by
  obtain ⟨r, r1, r2, r3, r4, -⟩ := out_ok I hn hc 6 a hL (fun q => (I.2.2.2.2.2.2.2.2.1 a (fin_125 hc q) q).2.1.2)
  rw [r1 6 (Nat.le_refl _)]
  exact ⟨r2 65 (by decide), r3, r4⟩
/-- an atom's next ones -/
theorem Cm_next {c : Nat → Int32} : ∀ (f a o q j : Nat), Ch c f a o → Cm c f a q → aEnd c q = some j → (c j = 38 ∨ c j = 124) → Cm c f a (j + 1)
  | 0, _, _, _, _, h, _, _, _ => h.elim
  | f + 1, a, o, q, j, ⟨j1, h1, h2⟩, hm, he, hs => by
    rcases hm with rfl | ⟨j', h5, h6, h7⟩
    · have e : j1 = j := Option.some.inj (h1.symm.trans he)
      subst e
      rcases h2 with ⟨h8, h9⟩ | ⟨h8, h9⟩
      · rw [h8, h9] at hs; exact absurd hs (by decide)
      · exact Or.inr ⟨j1, h1, h8, Cm_a h9⟩
    · have e : j' = j1 := Option.some.inj (h5.symm.trans h1)
      subst e
      rcases h2 with ⟨h8, h9⟩ | ⟨h8, h9⟩
      · rw [h8, h9] at h6; exact absurd h6 (by decide)
      · exact Or.inr ⟨j', h1, h6, Cm_next f (j' + 1) o q j h9 h7 he hs⟩
theorem Fs_next {c : Nat → Int32} {f0 a o : Nat} (hC : Ch c f0 a o) : ∀ (f q j k : Nat), Cm c f0 a q → aEnd c q = some j → Fs c f j k → c k = 124 → Cm c f0 a (k + 1)
  | 0, q, j, k, hm, he, h, hk => by rw [h.1] at hk ⊢; exact Cm_next f0 a o q j hC hm he (Or.inr hk)
  | f + 1, q, j, k, hm, he, h, hk => by
    rcases h with ⟨h1, h2⟩ | ⟨h1, q', h2, h3⟩
    · rw [h2] at hk ⊢; exact Cm_next f0 a o q j hC hm he (Or.inr hk)
    · have hm2 := Cm_next f0 a o q j hC hm he (Or.inl h1)
      obtain ⟨j2, g1, -⟩ := Cm_atm f0 a o (j + 1) hC hm2
      have e : j2 = q' := Option.some.inj ((atm_some g1).1.symm.trans h2)
      subst e
      exact Fs_next hC f (j + 1) j2 k hm2 g1 h3 hk
end Final
