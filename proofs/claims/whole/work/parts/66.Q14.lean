/-! The pure part: joins, and what they cost -/
theorem m1_and (x : Int32) : (-1 : Int32) &&& x = x := bt_ext (fun i hi => by rw [bt_and, bt_m1 i hi]; simp)
def SD (sc : SC) (D : MD) : Prop := (∀ p, p < 65 → (D.1 p = 0 ∧ sc.1 p = -1) ∨ (¬ D.1 p = 0 ∧ PK (sc.1 p) (D.2.1 p) (D.2.2.1 p))) ∧ (sc.2 = 0 ↔ D.2.2.2.2 = 0)
theorem upd_h {f : Nat → Int32} {k : Nat} {x : Int32} : upd f k x k = x := by simp [upd]
theorem upd_o {f : Nat → Int32} {k j : Nat} {x : Int32} (h : ¬ j = k) : upd f k x j = f j := by simp [upd, h]
theorem to_jn {sc : SC} {D : MD} {p : Nat} {x : Int32} {q : ML} (h : SD sc D) (hp : p < 65) (hx : PK x q.1 q.2.1) : SD (cTo p x sc) (mJn p q D) := by
  obtain ⟨h1, h2⟩ := h
  have oth : ∀ (X : Int32) (r s l : Int32) (a ch : Int32) (A : Nat → Int32), ((upd D.1 p r p = 0 ∧ X = -1) ∨ (¬ upd D.1 p r p = 0 ∧ PK X s l)) → (a = 0 ↔ ch = 0) → SD (upd sc.1 p X, a) (upd D.1 p r, upd D.2.1 p s, upd D.2.2.1 p l, A, ch) := by
    intro X r s l a ch A hX hc
    refine ⟨fun p' hp' => ?_, hc⟩
    by_cases e : p' = p
    · subst e
      simp only [upd_h] at hX ⊢
      exact hX
    · simp only [upd_o e]
      exact h1 p' hp'
  rcases h1 p hp with ⟨a, b⟩ | ⟨a, b⟩
  · have hn : ¬ sc.1 p &&& x = sc.1 p := by rw [b, m1_and]; exact hx.ne
    unfold cTo mJn
    simp only [if_neg hn, if_pos a]
    refine oth _ _ _ _ _ _ _ (Or.inr ⟨by rw [upd_h]; decide, ?_⟩) ?_
    · rw [b, m1_and]; exact hx
    · rw [if_pos (Or.inr (Or.inl a))]
  · have w := b.and hx
    unfold cTo mJn
    simp only [if_neg a]
    by_cases e : sc.1 p &&& x = sc.1 p
    · rw [if_pos e]
      rw [e] at w
      have ee := w.inj b
      have eu : upd sc.1 p (sc.1 p) = sc.1 := by
        funext j
        by_cases hj : j = p
        · rw [hj, upd_h]
        · rw [upd_o hj]
      have := oth (sc.1 p) 1 (D.2.1 p &&& q.1) (D.2.2.1 p &&& q.2.1) sc.2 (if ¬ D.2.2.2.2 = 0 ∨ D.1 p = 0 ∨ ¬ D.2.1 p &&& q.1 = D.2.1 p ∨ ¬ D.2.2.1 p &&& q.2.1 = D.2.2.1 p then 1 else 0) D.2.2.2.1 (Or.inr ⟨by rw [upd_h]; decide, w⟩) (by
        rw [h2]
        by_cases hc : D.2.2.2.2 = 0
        · have hnn : ¬ (¬ D.2.2.2.2 = 0 ∨ D.1 p = 0 ∨ ¬ D.2.1 p &&& q.1 = D.2.1 p ∨ ¬ D.2.2.1 p &&& q.2.1 = D.2.2.1 p) := by
            rintro (g | g | g | g)
            · exact g hc
            · exact a g
            · exact g ee.1
            · exact g ee.2
          rw [if_neg hnn]; exact ⟨fun _ => rfl, fun _ => hc⟩
        · rw [if_pos (Or.inl hc)]; exact ⟨fun g => absurd g hc, fun g => absurd g (by decide)⟩)
      rw [eu] at this
      exact this
    · rw [if_neg e]
      refine oth _ _ _ _ _ _ _ (Or.inr ⟨by rw [upd_h]; decide, w⟩) ?_
      have hne : ¬ D.2.1 p &&& q.1 = D.2.1 p ∨ ¬ D.2.2.1 p &&& q.2.1 = D.2.2.1 p := by
        by_cases g1 : D.2.1 p &&& q.1 = D.2.1 p
        · right
          intro g2
          rw [g1, g2] at w
          exact e (w.uniq b)
        · exact Or.inl g1
      rw [if_pos (Or.inr (Or.inr hne))]
theorem upd_comm {f : Nat → Int32} {a b : Nat} {x y : Int32} (h : ¬ a = b) : upd (upd f a x) b y = upd (upd f b y) a x := by
  funext j
  by_cases h1 : j = b
  · subst h1; rw [upd_h, upd_o (fun e => h e.symm), upd_h]
  · by_cases h2 : j = a
    · subst h2; rw [upd_o h1, upd_h, upd_h]
    · rw [upd_o h1, upd_o h2, upd_o h2, upd_o h1]
theorem upd_upd {f : Nat → Int32} {a : Nat} {x y : Int32} : upd (upd f a x) a y = upd f a y := by
  funext j
  by_cases h1 : j = a
  · subst h1; rw [upd_h, upd_h]
  · rw [upd_o h1, upd_o h1, upd_o h1]
theorem and_sub {s a b : Int32} (h : s &&& a &&& b = s) : s &&& a = s ∧ s &&& b = s := by
  have hb : ∀ i, i < 32 → bt s i = true → bt a i = true ∧ bt b i = true := fun i _ hi => by
    have := congrArg (fun w => bt w i) h
    simp only [bt_and, hi] at this
    simpa using this
  constructor
  · apply bt_ext
    intro i hi
    rw [bt_and]
    cases e : bt s i
    · rfl
    · rw [(hb i hi e).1]; rfl
  · apply bt_ext
    intro i hi
    rw [bt_and]
    cases e : bt s i
    · rfl
    · rw [(hb i hi e).2]; rfl
theorem and_rc (s a b : Int32) : s &&& a &&& b = s &&& b &&& a := bt_ext (fun i _ => by simp only [bt_and]; cases bt s i <;> cases bt a i <;> cases bt b i <;> rfl)
/-- two joins: their order does not matter -/
theorem cTo_comm (u v : Nat) (a b : Int32) (s : SC) : cTo v b (cTo u a s) = cTo u a (cTo v b s) := by
  obtain ⟨S, ch⟩ := s
  unfold cTo
  by_cases e : u = v
  · subst e
    by_cases h1 : S u &&& a = S u
    · by_cases h2 : S u &&& b = S u
      · simp only [if_pos h1, if_pos h2]
      · have h3 : S u &&& b &&& a = S u &&& b := by rw [and_rc, h1]
        simp only [if_pos h1, if_neg h2, upd_h, if_pos h3]
    · by_cases h2 : S u &&& b = S u
      · have h3 : S u &&& a &&& b = S u &&& a := by rw [and_rc, h2]
        simp only [if_neg h1, if_pos h2, upd_h, if_pos h3]
      · simp only [if_neg h1, if_neg h2, upd_h, upd_upd]
        by_cases h3 : S u &&& a &&& b = S u &&& a
        · by_cases h4 : S u &&& b &&& a = S u &&& b
          · simp only [if_pos h3, if_pos h4]
            rw [show S u &&& a = S u &&& b from by rw [← h3, and_rc, h4]]
          · simp only [if_pos h3, if_neg h4]
            rw [← and_rc, h3]
        · by_cases h4 : S u &&& b &&& a = S u &&& b
          · simp only [if_neg h3, if_pos h4]
            rw [and_rc, h4]
          · simp only [if_neg h3, if_neg h4]
            rw [and_rc]
  · have e' : ¬ v = u := fun w => e w.symm
    by_cases h1 : S u &&& a = S u
    · by_cases h2 : S v &&& b = S v
      · simp only [if_pos h1, if_pos h2]
      · simp only [if_pos h1, if_neg h2, upd_o e]
    · by_cases h2 : S v &&& b = S v
      · simp only [if_neg h1, if_pos h2, upd_o e']
      · simp only [if_neg h1, if_neg h2, upd_o e', upd_o e]
        rw [upd_comm e]
def pc (x : Int32) : Nat → Nat
  | 0 => 0
  | k + 1 => pc x k + if bt x k = true then 1 else 0
def wt (x : Int32) : Nat := if x = -1 then 11 else pc x 10
def mu (S : Nat → Int32) : Nat → Nat
  | 0 => 0
  | k + 1 => mu S k + wt (S k)
theorem pc_le (x : Int32) : ∀ k, pc x k ≤ k
  | 0 => Nat.le_refl _
  | k + 1 => by
    have := pc_le x k
    unfold pc; split <;> omega
theorem pc_and (x y : Int32) : ∀ k, pc (x &&& y) k ≤ pc x k ∧ ((∃ i, i < k ∧ bt x i = true ∧ bt y i = false) → pc (x &&& y) k < pc x k)
  | 0 => ⟨Nat.le_refl _, fun ⟨i, h, _⟩ => absurd h (Nat.not_lt_zero _)⟩
  | k + 1 => by
    obtain ⟨h1, h2⟩ := pc_and x y k
    simp only [pc, bt_and]
    refine ⟨?_, fun ⟨i, hi, a, b⟩ => ?_⟩
    · cases bt x k <;> cases bt y k <;> simp <;> omega
    · by_cases e : i = k
      · subst e; rw [a, b]; simp; omega
      · have := h2 ⟨i, by omega, a, b⟩
        cases bt x k <;> cases bt y k <;> simp <;> omega
theorem wt_and {x y : Int32} (hx : x = -1 ∨ ∀ i, 10 ≤ i → i < 32 → bt x i = false) (h : ¬ x &&& y = x) : wt (x &&& y) < wt x := by
  by_cases e : x = -1
  · rw [e, m1_and] at h ⊢
    unfold wt
    rw [if_neg h, if_pos rfl]
    have := pc_le y 10; omega
  · have hx := hx.resolve_left e
    have hn : ¬ x &&& y = -1 := fun q => by
      have := congrArg (fun w => bt w 10) q
      simp only [bt_and, hx 10 (by decide) (by decide)] at this
      rw [bt_m1 10 (by decide)] at this
      cases this
    unfold wt
    rw [if_neg hn, if_neg e]
    refine (pc_and x y 10).2 (Classical.byContradiction fun hc => h (bt_ext fun i hi => ?_))
    rw [bt_and]
    by_cases h10 : i < 10
    · cases ex : bt x i
      · rfl
      · cases ey : bt y i
        · exact absurd ⟨i, h10, ex, ey⟩ hc
        · rfl
    · rw [hx i (by omega) hi]; rfl
theorem mu_o {S : Nat → Int32} {p : Nat} {x : Int32} : ∀ k, k ≤ p → mu (upd S p x) k = mu S k
  | 0, _ => rfl
  | k + 1, h => by
    simp only [mu]
    rw [mu_o k (by omega), upd_o (by omega)]
theorem mu_u {S : Nat → Int32} {p : Nat} {x : Int32} (h : wt x < wt (S p)) : ∀ k, p < k → mu (upd S p x) k < mu S k
  | 0, hp => absurd hp (Nat.not_lt_zero _)
  | k + 1, hp => by
    simp only [mu]
    by_cases e : p = k
    · subst e
      rw [mu_o p (Nat.le_refl _), upd_h]; omega
    · have := mu_u h k (by omega)
      rw [upd_o (by omega)]; omega
def MuR (q q' : SC) : Prop := mu q'.1 65 ≤ mu q.1 65 ∧ (q'.2 = q.2 ∨ mu q'.1 65 < mu q.1 65)
theorem MuR.rfl' (q : SC) : MuR q q := ⟨Nat.le_refl _, Or.inl rfl⟩
theorem MuR.tr {a b d : SC} (h1 : MuR a b) (h2 : MuR b d) : MuR a d := by
  obtain ⟨p1, p2⟩ := h1
  obtain ⟨q1, q2⟩ := h2
  refine ⟨by omega, ?_⟩
  rcases p2 with p2 | p2
  · rcases q2 with q2 | q2
    · exact Or.inl (q2.trans p2)
    · exact Or.inr (by omega)
  · exact Or.inr (by omega)
theorem to_mu {sc : SC} {D : MD} {p : Nat} {x : Int32} (h : SD sc D) (hp : p < 65) : MuR sc (cTo p x sc) := by
  unfold cTo
  by_cases e : sc.1 p &&& x = sc.1 p
  · rw [if_pos e]; exact MuR.rfl' _
  · rw [if_neg e]
    have hw : wt (sc.1 p &&& x) < wt (sc.1 p) := by
      refine wt_and ?_ e
      rcases h.1 p hp with ⟨_, b⟩ | ⟨_, b⟩
      · exact Or.inl b
      · exact Or.inr b.hi
    have := mu_u hw 65 hp
    exact ⟨by show mu (upd sc.1 p (sc.1 p &&& x)) 65 ≤ _; omega, Or.inr this⟩
/-- what is reached are places -/
def RL (z : Sg) (n : Nat) (S : Nat → Int32) : Prop := ∀ p, p < 65 → ¬ S p = -1 → p ≤ n ∧ ¬ z 2 p = 0
theorem to_rl {z : Sg} {n p : Nat} {x : Int32} {sc : SC} (h : RL z n sc.1) (hp : p ≤ n) (hz : ¬ z 2 p = 0) : RL z n (cTo p x sc).1 := by
  unfold cTo
  split
  · exact h
  · intro p' hp' hs
    by_cases e : p' = p
    · rw [e]; exact ⟨hp, hz⟩
    · have hs : ¬ upd sc.1 p (sc.1 p &&& x) p' = -1 := hs
      rw [upd_o e] at hs; exact h p' hp' hs
