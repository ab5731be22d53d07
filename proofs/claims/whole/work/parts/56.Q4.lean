/-! The pure part: the moves of both parses -/
theorem inv_simple {c : Nat → Int32} {n i i' : Nat} {z y z' y' : Sg} {k : List Fr} {dp : Nat → Nat} (I : Inv c n i z y k dp) (hn : n ≤ 64) (hi : i < i') (hi' : i' ≤ n) (hz : ∀ p e, ¬ p = i → 1 ≤ e → z' e p = z e p) (hy : ∀ p e, ¬ p = i → 1 ≤ e → y' e p = y e p) (h03 : z' 0 3 = y' 0 8) (hC : Con c z' y' i) (h2 : z' 2 i = 1 ∨ z' 2 i = 3 ∨ z' 2 i = 4) (hw : z' 7 i = nI i' ∧ y' 7 i = nI i') (hch : ∀ p, i < p → p < i' → ¬ c p = 125) : Inv c n i' z' y' k dp := by
  obtain ⟨a1, a2, a3, a4, a5, a6, a7, a8, a9, a10⟩ := I
  have hk : ¬ z' 2 i = 0 := by rcases h2 with h | h | h <;> rw [h] <;> decide
  have hk2 : ¬ z' 2 i = 2 := by rcases h2 with h | h | h <;> rw [h] <;> decide
  have hk5 : ¬ z' 2 i = 5 := by rcases h2 with h | h | h <;> rw [h] <;> decide
  have h125 := (hC.n125 hk).1
  have M : Mv c i i' z y z' y' k k dp dp (fun _ => False) := ⟨hi, Or.inr hk, fun p e h1 h2 _ => hz p e (by omega) (by omega), fun p h1 _ => hz p 7 (by omega) (by decide), fun p e h1 h2 _ => hy p e (by omega) (by omega), fun p h1 _ => ⟨hy p 6 (by omega) (by decide), hy p 7 (by omega) (by decide)⟩, fun p h => h.elim, fun _ _ => rfl, fun h => absurd h h125, fun h _ h2 => ⟨h2, id⟩⟩
  have new0 : ∀ p, i < p → p < 65 → z' 2 p = 0 ∧ y' 3 p = 0 := fun p h1 h2 => by
    rw [hz p 2 (by omega) (by decide), hy p 3 (by omega) (by decide)]; exact a4 p (by omega) h2
  have old2 : ∀ p, p < i → z' 2 p = z 2 p := fun p h => hz p 2 (by omega) (by decide)
  refine ⟨hi', a2, h03, fun p h1 h2 => new0 p (by omega) h2, fun p hp => ?_, fun p hp hq => ?_, fun p hp hq => ?_, M.frI k (fun _ _ h => h) a8, fun p hp hq => ?_, fun p hp hq => ?_⟩
  · rcases Nat.lt_trichotomy p i with h | h | h
    · exact M.con h (a5 p h)
    · rw [h]; exact hC
    · exact Or.inl (new0 p h (by omega))
  · rcases Nat.lt_trichotomy p i with h | h | h
    · rw [old2 p h] at hq; exact M.way h hq (a6 p h hq)
    · rw [h]; exact ⟨i', hw.1, hw.2, Nat.le_refl _, fun q => absurd q (Nat.lt_irrefl _)⟩
    · rw [(new0 p h (by omega)).1] at hq; exact absurd hq (by decide)
  · rcases Nat.lt_trichotomy p i with h | h | h
    · rw [old2 p h] at hq
      have := a7 p h hq
      exact ⟨by rw [old2 (p + 1) this.2]; exact this.1, by omega⟩
    · rw [h] at hq; exact absurd hq hk2
    · rw [(new0 p h (by omega)).1] at hq; exact absurd hq (by decide)
  · rcases Nat.lt_trichotomy p i with h | h | h
    · obtain ⟨b1, b2, b3⟩ := a9 p h hq
      refine ⟨by rw [old2 p h]; exact b1, b2, b3.elim Or.inl (fun w => Or.inr (M.brF h (fun _ _ _ _ => hz p 9 (by omega) (by decide)) w))⟩
    · rw [h] at hq; exact absurd hq h125
    · exact absurd hq (hch p h hp)
  · rcases Nat.lt_trichotomy p i with h | h | h
    · rw [old2 p h] at hq
      exact (a10 p h hq).elim Or.inl (fun w => Or.inr (M.atF h (fun _ _ _ _ => ⟨hz p 7 (by omega) (by decide), hz p 8 (by omega) (by decide)⟩) w))
    · rw [h] at hq; exact absurd hq hk5
    · rw [(new0 p h (by omega)).1] at hq; exact absurd hq (by decide)
theorem inv_open {c : Nat → Int32} {n i o : Nat} {z y z' y' : Sg} {k : List Fr} {dp : Nat → Nat} (I : Inv c n i z y k dp) (hn : n ≤ 64) (hc : ∀ i, n ≤ i → c i = 0) (hci : c i = 63 ∨ c i = 42) (hC : Ch c 64 (i + 1) o) (hk6 : k.length < 6)
    (hz : ∀ p e, ¬ p = i → ¬ Cm c 64 (i + 1) p → 1 ≤ e → e ≤ 9 → z' e p = z e p) (hy : ∀ p e, ¬ p = i → ¬ Cm c 64 (i + 1) p → 3 ≤ e → e ≤ 7 → y' e p = y e p) (h03 : z' 0 3 = y' 0 8)
    (hm : ∀ p, Cm c 64 (i + 1) p → AtC c z' p ∧ y' 3 p = 7 ∧ y' 4 p = nI i) (h2 : z' 2 i = 2) (h7 : z' 7 i = nI (i + 1)) (h3 : (c i = 63 ∧ y' 3 i = 3) ∨ (c i = 42 ∧ y' 3 i = 4)) (h5 : y' 5 i = nI (o + 1)) (h6 : y' 6 i = 0) : Inv c n (o + 1) z' y' ((i, o, none) :: k) dp := by
  obtain ⟨a1, a2, a3, a4, a5, a6, a7, a8, a9, a10⟩ := I
  obtain ⟨hio, hco⟩ := Ch_lt 64 (i + 1) o hC
  have hon : o < n := Nat.not_le.mp (fun h => by rw [hc o h] at hco; exact absurd hco (by decide))
  have hmi : ∀ p, Cm c 64 (i + 1) p → i + 1 ≤ p ∧ p < o := fun p => Cm_in 64 (i + 1) o p hC
  have hold : ∀ p, p < i → ¬ p = i ∧ ¬ Cm c 64 (i + 1) p := fun p h => ⟨by omega, fun q => by have := hmi p q; omega⟩
  have h125 : ¬ c i = 125 := by rcases hci with h | h <;> rw [h] <;> decide
  have M : Mv c i (o + 1) z y z' y' k ((i, o, none) :: k) dp dp (fun _ => False) := ⟨by omega, Or.inr (by rw [h2]; decide), fun p e h1 h2 _ => hz p e (hold p h1).1 (hold p h1).2 (by omega) (by omega), fun p h1 _ => hz p 7 (hold p h1).1 (hold p h1).2 (by decide) (by decide), fun p e h1 h2 _ => hy p e (hold p h1).1 (hold p h1).2 (by omega) (by omega), fun p h1 _ => ⟨hy p 6 (hold p h1).1 (hold p h1).2 (by decide) (by decide), hy p 7 (hold p h1).1 (hold p h1).2 (by decide) (by decide)⟩, fun p h => h.elim, fun _ _ => rfl, fun h => absurd h h125, fun h h1 h2 => ⟨fun q => by
    rcases List.mem_cons.mp q with q | q
    · have q : h = i := q; omega
    · exact h2 q, id⟩⟩
  have new0 : ∀ p, i < p → p < 65 → ¬ Cm c 64 (i + 1) p → z' 2 p = 0 ∧ y' 3 p = 0 := fun p h1 h2 h3 => by
    rw [hz p 2 (by omega) h3 (by decide) (by decide), hy p 3 (by omega) h3 (by decide) (by decide)]; exact a4 p (by omega) h2
  have old2 : ∀ p, p < i → z' 2 p = z 2 p := fun p h => hz p 2 (hold p h).1 (hold p h).2 (by decide) (by decide)
  have hch : ∀ p, i < p → p < o + 1 → ¬ c p = 125 := fun p h1 h2 => by
    by_cases h : p = o
    · rw [h, hco]; decide
    · exact (Ch_semi 64 (i + 1) o hC p (by omega) (by omega)).2.1
  have at5 : ∀ p, i < p → p < o + 1 → (z' 2 p = 5 ↔ Cm c 64 (i + 1) p) := fun p h1 h2 => ⟨fun w => Classical.byContradiction fun hx => by
    rw [(new0 p h1 (by omega) hx).1] at w; exact absurd w (by decide), fun w => (hm p w).1.1⟩
  refine ⟨by omega, by simp only [List.length_cons]; omega, h03, fun p h1 h2 => new0 p (by omega) h2 (fun q => by have := hmi p q; omega), fun p hp => ?_, fun p hp hq => ?_, fun p hp hq => ?_, ?_, fun p hp hq => ?_, fun p hp hq => ?_⟩
  · rcases Nat.lt_trichotomy p i with h | h | h
    · exact M.con h (a5 p h)
    · rw [h]; exact Or.inr (Or.inr (Or.inl ⟨h2, h7, h3⟩))
    · by_cases hx : Cm c 64 (i + 1) p
      · obtain ⟨j, hj, -⟩ := Cm_atm 64 (i + 1) o p hC hx
        exact Or.inr (Or.inr (Or.inr (Or.inr (Or.inr ⟨(hm p hx).1, (hm p hx).2.1, j, hj⟩))))
      · exact Or.inl (new0 p h (by omega) hx)
  · rcases Nat.lt_trichotomy p i with h | h | h
    · rw [old2 p h] at hq; exact M.way h hq (a6 p h hq)
    · rw [h, h2] at hq; exact absurd hq (by decide)
    · by_cases hx : Cm c 64 (i + 1) p
      · rw [(hm p hx).1.1] at hq; exact absurd hq (by decide)
      · rw [(new0 p h (by omega) hx).1] at hq; exact absurd hq (by decide)
  · rcases Nat.lt_trichotomy p i with h | h | h
    · rw [old2 p h] at hq
      have := a7 p h hq
      exact ⟨by rw [old2 (p + 1) this.2]; exact this.1, by omega⟩
    · rw [h]; exact ⟨(hm (i + 1) (Cm_a hC)).1.1, by omega⟩
    · by_cases hx : Cm c 64 (i + 1) p
      · rw [(hm p hx).1.1] at hq; exact absurd hq (by decide)
      · rw [(new0 p h (by omega) hx).1] at hq; exact absurd hq (by decide)
  · exact ⟨hci, by omega, by omega, hC, h2, h5, ⟨Nat.le_refl _, fun q => absurd q (Nat.lt_irrefl _)⟩, fun q q1 q2 => at5 q q1 (by omega), fun q hq => (hm q hq).2.2, h6, fun fr hf => FrI_hd k a8 fr hf, M.frI k (fun _ _ h => h) a8⟩
  · rcases Nat.lt_trichotomy p i with h | h | h
    · obtain ⟨b1, b2, b3⟩ := a9 p h hq
      refine ⟨by rw [old2 p h]; exact b1, b2, b3.elim (fun ⟨fr, w1, w2⟩ => Or.inl ⟨fr, List.mem_cons_of_mem _ w1, w2⟩) (fun w => Or.inr (M.brF h (fun _ _ _ _ => hz p 9 (hold p h).1 (hold p h).2 (by decide) (by decide)) w))⟩
    · rw [h] at hq; exact absurd hq h125
    · exact absurd hq (hch p h hp)
  · rcases Nat.lt_trichotomy p i with h | h | h
    · rw [old2 p h] at hq
      exact (a10 p h hq).elim (fun ⟨fr, w1, w2⟩ => Or.inl ⟨fr, List.mem_cons_of_mem _ w1, w2⟩) (fun w => Or.inr (M.atF h (fun _ _ _ _ => ⟨hz p 7 (hold p h).1 (hold p h).2 (by decide) (by decide), hz p 8 (hold p h).1 (hold p h).2 (by decide) (by decide)⟩) w))
    · rw [h, h2] at hq; exact absurd hq (by decide)
    · exact Or.inl ⟨(i, o, none), List.mem_cons_self, (at5 p h hp).mp hq⟩
theorem fu_n {α : Type} {f : Nat → α} {k j : Nat} {x : α} (h : ¬ j = k) : fu f k x j = f j := if_neg h
theorem fu_s {α : Type} {f : Nat → α} {k : Nat} {x : α} : fu f k x k = x := if_pos rfl
theorem inv_else {c : Nat → Int32} {n i h o : Nat} {z y z' y' : Sg} {r : List Fr} {dp : Nat → Nat} (I : Inv c n i z y ((h, o, none) :: r) dp) (hn : n ≤ 64) (hc : ∀ i, n ≤ i → c i = 0) (hci : c i = 125) (hc1 : c (i + 1) = 123) (hch : c h = 63)
    (hz : ∀ p e, 1 ≤ e → e ≤ 9 → z' e p = z e p) (hz0 : z' 0 3 = z 0 3) (hy4 : y' 4 i = nI h) (hy6 : y' 6 h = nI (i + 2)) (hy : ∀ p e, p < 65 → 3 ≤ e → e ≤ 7 → ¬ (e = 4 ∧ p = i) → ¬ (e = 6 ∧ p = h) → ¬ (e = 7 ∧ p = h) → y' e p = y e p) (hy0 : y' 0 8 = y 0 8) : Inv c n (i + 2) z' y' ((h, o, some i) :: r) (fu dp i (r.length + 1)) := by
  obtain ⟨a1, a2, a3, a4, a5, a6, a7, a8, a9, a10⟩ := I
  have hin : i + 1 < n := Nat.not_le.mp (fun q => by rw [hc _ q] at hc1; exact absurd hc1 (by decide))
  obtain ⟨f1, f2, f3, f4, f5, f6, f7, f8, f9, f10, f11, f12⟩ := a8
  have M : Mv c i (i + 2) z y z' y' ((h, o, none) :: r) ((h, o, some i) :: r) dp (fu dp i (r.length + 1)) (fun q => q = h) := ⟨by omega, Or.inl hci, fun p e h1 h2 _ => hz p e (by omega) (by omega), fun p h1 _ => hz p 7 (by decide) (by decide), fun p e h1 h2 h3 => hy p e (by omega) (by omega) (by omega) (by omega) (by omega) (by omega), fun p h1 h2 => ⟨hy p 6 (by omega) (by decide) (by decide) (by omega) (fun q => h2 q.2) (by omega), hy p 7 (by omega) (by decide) (by decide) (by omega) (by omega) (fun q => h2 q.2)⟩, fun p q => by rw [q]; exact f5, fun p hp => fu_n (by omega), fun _ => by rw [fu_s]; exact Nat.le_refl _, fun q h1 h2 => ⟨h2, fun w => h2 (by rw [w]; exact List.mem_cons_self)⟩⟩
  have z2 : ∀ p, z' 2 p = z 2 p := fun p => hz p 2 (by decide) (by decide)
  have y3 : ∀ p, p < 65 → y' 3 p = y 3 p := fun p hp => hy p 3 hp (by decide) (by decide) (by omega) (by omega) (by omega)
  have new0 : ∀ p, i ≤ p → p < 65 → z' 2 p = 0 ∧ y' 3 p = 0 := fun p h1 h2 => by rw [z2, y3 p h2]; exact a4 p h1 h2
  refine ⟨by omega, a2, by rw [hz0, hy0]; exact a3, fun p h1 h2 => new0 p (by omega) h2, fun p hp => ?_, fun p hp hq => ?_, fun p hp hq => ?_, ?_, fun p hp hq => ?_, fun p hp hq => ?_⟩
  · by_cases hpi : p < i
    · exact M.con hpi (a5 p hpi)
    · exact Or.inl (new0 p (by omega) (by omega))
  · by_cases hpi : p < i
    · rw [z2] at hq; exact M.way hpi hq (a6 p hpi hq)
    · rw [(new0 p (by omega) (by omega)).1] at hq; exact absurd hq (by decide)
  · by_cases hpi : p < i
    · rw [z2] at hq ⊢
      have := a7 p hpi hq
      exact ⟨this.1, by omega⟩
    · rw [(new0 p (by omega) (by omega)).1] at hq; exact absurd hq (by decide)
  · have hhi : h < i := by omega
    refine ⟨f1, f2, by omega, f4, by rw [z2]; exact f5, by rw [hy h 5 (by omega) (by decide) (by decide) (by omega) (by omega) (by omega)]; exact f6, M.land f7, fun q q1 q2 => by rw [z2]; exact f8 q q1 q2, fun q hq => ?_, ⟨hy6, by omega, hci, hch, hy4, fu_s, Nat.le_refl _, fun q => absurd q (Nat.lt_irrefl _)⟩, f11, M.frI r (fun fr hf w => by have := f11 fr hf; omega) f12⟩
    have := Cm_in 64 (h + 1) o q f4 hq
    rw [hy q 4 (by omega) (by decide) (by decide) (by omega) (by omega) (by omega)]; exact f9 q hq
  · by_cases hpi : p < i
    · obtain ⟨b1, b2, b3⟩ := a9 p hpi hq
      refine ⟨by rw [z2]; exact b1, by rw [fu_n (by omega)]; exact b2, b3.elim (fun ⟨fr, w1, w2⟩ => ?_) (fun w => Or.inr (M.brF hpi (fun _ _ _ _ => hz p 9 (by decide) (by decide)) w))⟩
      rcases List.mem_cons.mp w1 with w1 | w1
      · rw [w1] at w2; cases w2
      · exact Or.inl ⟨fr, List.mem_cons_of_mem _ w1, w2⟩
    · by_cases hpe : p = i
      · rw [hpe]
        have hl : r.length + 1 ≤ 6 := a2
        exact ⟨(new0 i (Nat.le_refl _) (by omega)).1, by rw [fu_s]; omega, Or.inl ⟨(h, o, some i), List.mem_cons_self, rfl⟩⟩
      · have : p = i + 1 := by omega
        rw [this, hc1] at hq; exact absurd hq (by decide)
  · by_cases hpi : p < i
    · rw [z2] at hq
      refine (a10 p hpi hq).elim (fun ⟨fr, w1, w2⟩ => ?_) (fun w => Or.inr (M.atF hpi (fun _ _ _ _ => ⟨hz p 7 (by decide) (by decide), hz p 8 (by decide) (by decide)⟩) w))
      rcases List.mem_cons.mp w1 with w1 | w1
      · rw [w1] at w2; exact Or.inl ⟨(h, o, some i), List.mem_cons_self, w2⟩
      · exact Or.inl ⟨fr, List.mem_cons_of_mem _ w1, w2⟩
    · rw [(new0 p (by omega) (by omega)).1] at hq; exact absurd hq (by decide)
