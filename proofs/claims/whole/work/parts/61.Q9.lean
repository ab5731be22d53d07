/-! The pure part: the tables of a good text -/
section Tables
variable {c : Nat → Int32} {n : Nat} {Z Y : Sg} {dp : Nat → Nat}
theorem land_at (I : Inv c n n Z Y [] dp) {q : Nat} (hq : q ≤ n) (h : Z 2 q = 5) : Land c n Z q := ⟨hq, fun _ => Or.inr (by rw [h]; decide)⟩
theorem kind_lt (I : Inv c n n Z Y [] dp) (hn : n ≤ 64) {q : Nat} (hq : q ≤ n) (h : ¬ Z 2 q = 0) : q < n := by
  rcases Nat.lt_or_ge q n with w | w
  · exact w
  · exact absurd (I.2.2.2.1 q w (by omega)).1 h
theorem out_atm (I : Inv c n n Z Y [] dp) (hn : n ≤ 64) {q : Nat} (hq : q ≤ n) (h : Z 2 q = 5) : fOut c (exF Z) 6 q = q := by
  have h0 : ¬ Z 2 q = 0 := by rw [h]; decide
  exact fOut_n ((I.2.2.2.2.1 q (kind_lt I hn hq h0)).n125 h0).1 6
/-- the two ways of an atom -/
theorem atm_ways (I : Inv c n n Z Y [] dp) (hn : n ≤ 64) (hc : ∀ i, n ≤ i → c i = 0) {p : Nat} (hp : p < n) (h5 : Z 2 p = 5) : ∃ T F, Land c n Z T ∧ Land c n Z F ∧ Z 7 p = nI (if c p = 126 then F else T) ∧ Z 8 p = nI (if c p = 126 then T else F) ∧
    Tr c (us Y 3 n 8 3) (us Y 3 n 8 4) (us Y 3 n 8 5) (us Y 3 n 8 6) (us Y 3 n 8 7) n p true (fOut c (exF Z) 6 T) ∧ Tr c (us Y 3 n 8 3) (us Y 3 n 8 4) (us Y 3 n 8 5) (us Y 3 n 8 6) (us Y 3 n 8 7) n p false (fOut c (exF Z) 6 F) := by
  rcases I.2.2.2.2.2.2.2.2.2 p hp h5 with ⟨fr, w, -⟩ | ⟨h, o, e, f, -, H, b3, b4, r, ⟨j, k, g1, g2, g3, g4⟩, b6, b7⟩
  · cases w
  · obtain ⟨a1, a2, a3, a4, a5, a6, a7, a8, a9, a11, a10⟩ := H
    have hy4 : us Y 3 n 8 4 p = nI h := by rw [us_c (by decide)]; exact b3
    have hy5 : us Y 3 n 8 5 h = nI (o + 1) := by rw [us_c (by decide)]; exact a6
    have hy7 : us Y 3 n 8 7 h = nI e := by rw [us_c (by decide)]; exact a8
    have hh : h < n := by omega
    have hro : us Y 3 n 8 3 h = Y 3 h := us_p (by omega)
    have hcm : ∀ q, Cm c 64 (h + 1) q → q ≤ n ∧ Z 2 q = 5 := fun q hq => by
      have := Cm_in 64 (h + 1) o q a4 hq
      exact ⟨by omega, a11 q hq⟩
    have hm := (atm_some g1).1
    refine ⟨Tt c o p, r, ?_, ?_, b6, b7, ⟨j, h, hm, hy4, by omega, ?_⟩, ⟨j, h, hm, hy4, by omega, ?_⟩⟩
    · by_cases h38 : c j = 38
      · have q := hcm (j + 1) (Cm_next 64 (h + 1) o p j a4 b4 g1 (Or.inl h38))
        have e : Tt c o p = j + 1 := by unfold Tt; rw [g1]; exact if_pos h38
        rw [e]; exact land_at I q.1 q.2
      · have e : Tt c o p = o + 1 := by unfold Tt; rw [g1]; exact if_neg h38
        rw [e]; exact a7
    · rw [g4]
      by_cases h124 : c k = 124
      · rw [if_pos h124]
        have q := hcm (k + 1) (Fs_next a4 64 p j k b4 g1 g2 h124)
        exact land_at I q.1 q.2
      · rw [if_neg h124]
        cases f with
        | none => exact a9
        | some w => exact a10.2.2
    · by_cases h38 : c j = 38
      · have q := hcm (j + 1) (Cm_next 64 (h + 1) o p j a4 b4 g1 (Or.inl h38))
        have e : Tt c o p = j + 1 := by unfold Tt; rw [g1]; exact if_pos h38
        rw [e]; exact Or.inl ⟨h38, out_atm I hn q.1 q.2⟩
      · have e : Tt c o p = o + 1 := by unfold Tt; rw [g1]; exact if_neg h38
        rw [e]; exact Or.inr ⟨h38, o + 1, hy5, (out_6 I hn hc a7).1⟩
    · refine ⟨k, g2, by omega, ?_⟩
      by_cases h124 : c k = 124
      · rw [g4, if_pos h124]
        have q := hcm (k + 1) (Fs_next a4 64 p j k b4 g1 g2 h124)
        exact Or.inl ⟨h124, out_atm I hn q.1 q.2⟩
      · rw [g4, if_neg h124]
        refine Or.inr ⟨h124, ?_⟩
        cases f with
        | none =>
          have hy6 : us Y 3 n 8 6 h = 0 := by rw [us_c (by decide)]; exact a10
          refine Or.inr ⟨(fun q => ?_), e, hy7, (out_6 I hn hc a9).1⟩
          rw [hy6] at q; exact absurd q.2 (by decide)
        | some w =>
          have hy6 : us Y 3 n 8 6 h = nI (w + 2) := by rw [us_c (by decide)]; exact a10.1
          have hw := a10.2.2.1
          have h3 : us Y 3 n 8 3 h = 3 := by
            rw [hro]
            rcases (con_2 (I.2.2.2.2.1 h hh) a5).2 with ⟨_, q⟩ | ⟨q, _⟩
            · exact q
            · rw [a10.2.1] at q; exact absurd q (by decide)
          refine Or.inl ⟨h3, ?_, w + 2, hy6, (out_6 I hn hc a10.2.2).1⟩
          rw [hy6]; exact (nI_lt' (a := 0) (by decide) (by omega)).mpr (by omega)
/-- the way of any place that has one -/
theorem way_ok (I : Inv c n n Z Y [] dp) (hn : n ≤ 64) (hc : ∀ i, n ≤ i → c i = 0) {p : Nat} (hp : p < n) (h0 : ¬ Z 2 p = 0) : ∃ q, Z 7 p = nI q ∧ q < 900 ∧ (¬ Z 2 p = 4 → Land c n Z q) ∧ (Z 2 p = 2 → q = p + 1) := by
  rcases I.2.2.2.2.1 p hp with h | h | h | h | h | h
  · exact absurd h.1 h0
  · obtain ⟨q, q1, q2, q3⟩ := I.2.2.2.2.2.1 p hp (Or.inl h.1)
    exact ⟨q, q1, by have := q3.1; omega, fun _ => q3, fun w => by rw [h.1] at w; exact absurd w (by decide)⟩
  · have h7 := I.2.2.2.2.2.2.1 p hp h.1
    exact ⟨p + 1, h.2.1, by omega, fun _ => land_at I (by omega) h7.1, fun _ => rfl⟩
  · obtain ⟨q, q1, q2, q3⟩ := I.2.2.2.2.2.1 p hp (Or.inr h.1)
    exact ⟨q, q1, by have := q3.1; omega, fun _ => q3, fun w => by rw [h.1] at w; exact absurd w (by decide)⟩
  · exact ⟨p + 2, h.2.2.2, by omega, fun w => absurd h.1 w, fun w => by rw [h.1] at w; exact absurd w (by decide)⟩
  · obtain ⟨T, F, h1, h2, h3, h4, -⟩ := atm_ways I hn hc hp h.1.1
    have w2 : Z 2 p = 2 → (if c p = 126 then F else T) = p + 1 := fun w => by rw [h.1.1] at w; exact absurd w (by decide)
    have w1 : Land c n Z (if c p = 126 then F else T) := by split; exact h2; exact h1
    exact ⟨_, h3, by have := w1.1; omega, fun _ => w1, w2⟩
theorem exit_ok (I : Inv c n n Z Y [] dp) (hn : n ≤ 64) (hc : ∀ i, n ≤ i → c i = 0) {p : Nat} (h : c p = 125) : Z 9 p = nI (exF Z p) ∧ exF Z p < 65 := by
  obtain ⟨b1, b2, b3⟩ := I.2.2.2.2.2.2.2.2.1 p (fin_125 hc h) h
  rcases b3 with ⟨fr, w, -⟩ | ⟨h, o, e, f, -, g2, g3, g4, g5⟩
  · cases w
  · have h1 := g2.2.1
    have h2 := g2.2.2.1
    have h3 := g2.2.2.2.2.2.2.2.2.1.1
    have hb : (if c h = 42 then h + 1 else e) < 65 := by split <;> omega
    unfold exF
    rw [g4, cl_nI (by omega)]
    exact ⟨rfl, hb⟩
end Tables
