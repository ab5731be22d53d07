/-! The pure part: a block closes -/
theorem nI_i65 {a b : Nat} (ha : a < 65) (hb : b < 65) (h : nI a = nI b) : a = b := (nI_eq' (by omega) (by omega)).mp h
theorem inv_close {c : Nat → Int32} {n i h o : Nat} {f : Option Nat} {z y z1 z' y' : Sg} {r : List Fr} {dp : Nat → Nat} (I : Inv c n i z y ((h, o, f) :: r) dp) (hn : n ≤ 64) (hin : i < n) (hci : c i = 125)
    (hz : ∀ p e, 1 ≤ e → e ≤ 8 → z1 e p = z e p) (hz9 : ∀ p, ¬ p = i → ¬ f = some p → z1 9 p = z 9 p) (hz9i : z1 9 i = nI (if c h = 42 then h + 1 else i + 1)) (hz9w : ∀ w, f = some w → ¬ w = i → z1 9 w = nI (i + 1)) (hz0 : z1 0 3 = z 0 3) (hL : LkE c o (clF i f) 64 (h + 1) z1 z')
    (hy4 : y' 4 i = nI h) (hy7 : y' 7 h = nI (i + 1)) (hy : ∀ p e, p < 65 → 3 ≤ e → e ≤ 7 → ¬ (e = 4 ∧ p = i) → ¬ (e = 7 ∧ p = h) → y' e p = y e p) (hy0 : y' 0 8 = y 0 8) : Inv c n (i + 1) z' y' r (fu dp i (r.length + 1)) := by
  obtain ⟨a1, a2, a3, a4, a5, a6, a7, a8, a9, a10⟩ := I
  obtain ⟨f1, f2, f3, f4, f5, f6, f7, f8, f9, f10, f11, f12⟩ := a8
  obtain ⟨l1, l2, l3⟩ := hL
  have hhi : h < i := by omega
  have hl : r.length + 1 ≤ 6 := a2
  have z2 : ∀ p e, 1 ≤ e → e ≤ 6 → z' e p = z e p := fun p e h1 h2 => by rw [l1 e p (by omega)]; exact hz p e h1 (by omega)
  have z22 : ∀ p, z' 2 p = z 2 p := fun p => z2 p 2 (by decide) (by decide)
  have z9' : ∀ p, z' 9 p = z1 9 p := fun p => l1 9 p (by decide)
  have hcm : ∀ p, Cm c 64 (h + 1) p → h < p ∧ p < o ∧ z 2 p = 5 ∧ y 4 p = nI h := fun p q => by
    have := Cm_in 64 (h + 1) o p f4 q
    exact ⟨by omega, this.2, (f8 p (by omega) this.2).mpr q, f9 p q⟩
  have hnot : ∀ q, q ∉ hds ((h, o, f) :: r) → ¬ q = h := fun q w e => w (by rw [e]; exact List.mem_cons_self)
  have M : Mv c i (i + 1) z y z' y' ((h, o, f) :: r) r dp (fu dp i (r.length + 1)) (fun q => q = h) := ⟨by omega, Or.inl hci, fun p e h1 h2 h3 => z2 p e (by omega) h3, fun p h1 h2 => by
      rw [l2 p (fun q => h2 (hcm p q).2.2.1) 7]; exact hz p 7 (by decide) (by decide), fun p e h1 h2 h3 => hy p e (by omega) (by omega) (by omega) (by omega) (by omega), fun p h1 h2 => ⟨hy p 6 (by omega) (by decide) (by decide) (by omega) (by omega), hy p 7 (by omega) (by decide) (by decide) (by omega) (fun q => h2 q.2)⟩, fun p q => by rw [q]; exact f5, fun p hp => fu_n (by omega), fun _ => by rw [fu_s]; exact Nat.le_refl _, fun q h1 h2 => ⟨fun w => h2 (List.mem_cons_of_mem _ w), hnot q h2⟩⟩
  have new0 : ∀ p, i ≤ p → p < 65 → z' 2 p = 0 ∧ y' 3 p = 0 := fun p h1 h2 => by
    rw [z22, hy p 3 h2 (by decide) (by decide) (by omega) (by omega)]; exact a4 p h1 h2
  have hhr : h ∉ hds r := fun w => by
    obtain ⟨fr, w1, w2⟩ := List.mem_map.mp w
    have := f11 fr w1; omega
  have HF : HdF c (i + 1) z' y' h o (i + 1) f := by
    refine ⟨f1, f2, by omega, f4, by rw [z22]; exact f5, by rw [hy h 5 (by omega) (by decide) (by decide) (by omega) (by omega)]; exact f6, M.land f7, hy7, ⟨Nat.le_refl _, fun q => absurd q (Nat.lt_irrefl _)⟩, fun q hq => by rw [z22]; exact (hcm q hq).2.2.1, ?_⟩
    have e6 : y' 6 h = y 6 h := hy h 6 (by omega) (by decide) (by decide) (by omega) (by omega)
    cases f with
    | none => show y' 6 h = 0; rw [e6]; exact f10
    | some w => exact ⟨by rw [e6]; exact f10.1, f10.2.2.2.1, M.land f10.2.2.2.2.2.2⟩
  have old4 : ∀ p, p < i → y' 4 p = y 4 p := fun p hp => hy p 4 (by omega) (by decide) (by decide) (by omega) (by omega)
  refine ⟨by omega, by omega, by rw [l1 0 3 (by decide), hz0, hy0]; exact a3, fun p h1 h2 => new0 p (by omega) h2, fun p hp => ?_, fun p hp hq => ?_, fun p hp hq => ?_, M.frI r (fun fr hf w => by have := f11 fr hf; omega) f12, fun p hp hq => ?_, fun p hp hq => ?_⟩
  · by_cases hpi : p < i
    · exact M.con hpi (a5 p hpi)
    · exact Or.inl (new0 p (by omega) (by omega))
  · by_cases hpi : p < i
    · rw [z22] at hq; exact M.way hpi hq (a6 p hpi hq)
    · rw [(new0 p (by omega) (by omega)).1] at hq; exact absurd hq (by decide)
  · by_cases hpi : p < i
    · rw [z22] at hq ⊢
      have := a7 p hpi hq
      exact ⟨this.1, by omega⟩
    · rw [(new0 p (by omega) (by omega)).1] at hq; exact absurd hq (by decide)
  · by_cases hpi : p < i
    · obtain ⟨b1, b2, b3⟩ := a9 p hpi hq
      refine ⟨by rw [z22]; exact b1, by rw [fu_n (by omega)]; exact b2, ?_⟩
      rcases b3 with ⟨fr, w1, w2⟩ | w
      · rcases List.mem_cons.mp w1 with w1 | w1
        · rw [w1] at w2
          have w2 : f = some p := w2
          subst w2
          obtain ⟨g1, g2, g3, g4, g5, g6, g7⟩ := f10
          have hh42 : ¬ c h = 42 := by rw [g4]; decide
          refine Or.inr ⟨h, o, i + 1, some p, hhr, HF, by rw [old4 p hpi]; exact g5, ?_, fun _ => ⟨fun _ => ?_, fun w => absurd w (Nat.lt_irrefl _)⟩⟩
          · rw [z9', hz9w p rfl (by omega), if_neg hh42]
          · rw [fu_n (by omega), g6]; exact Nat.lt_succ_self _
        · exact Or.inl ⟨fr, w1, w2⟩
      · refine Or.inr (M.brF hpi (fun h' w1 w2 w3 => ?_) w)
        rw [z9']
        refine hz9 p (by omega) (fun w4 => ?_)
        subst w4
        have g5 := f10.2.2.2.2.1
        exact hnot h' w1 (nI_i65 (by omega) (by omega) (w3.symm.trans g5))
    · have hpe : p = i := by omega
      rw [hpe]
      refine ⟨(new0 i (Nat.le_refl _) (by omega)).1, by rw [fu_s]; omega, Or.inr ⟨h, o, i + 1, f, hhr, HF, hy4, by rw [z9']; exact hz9i, fun _ => ⟨fun _ => by rw [fu_s]; exact Nat.lt_succ_self _, fun w => absurd w (Nat.lt_irrefl _)⟩⟩⟩
  · by_cases hpi : p < i
    · rw [z22] at hq
      rcases a10 p hpi hq with ⟨fr, w1, w2⟩ | w
      · rcases List.mem_cons.mp w1 with w1 | w1
        · rw [w1] at w2
          obtain ⟨r9, q1, q2, q3⟩ := l3 p w2
          have eF : clF i f = F0f (i + 1) f := by cases f <;> rfl
          exact Or.inr ⟨h, o, i + 1, f, hhr, HF, by rw [old4 p hpi]; exact f9 p w2, w2, r9, by rw [← eF]; exact q1, q2, q3⟩
        · exact Or.inl ⟨fr, w1, w2⟩
      · refine Or.inr (M.atF hpi (fun h' w1 w2 w3 => ?_) w)
        have hnc : ¬ Cm c 64 (h + 1) p := fun q => hnot h' w1 (nI_i65 (by omega) (by omega) (w3.symm.trans (hcm p q).2.2.2))
        exact ⟨by rw [l2 p hnc 7]; exact hz p 7 (by decide) (by decide), by rw [l2 p hnc 8]; exact hz p 8 (by decide) (by decide)⟩
    · rw [(new0 p (by omega) (by omega)).1] at hq; exact absurd hq (by decide)
