/-! The pure part: what both parses know at a place -/
def WrC (c : Nat → Int32) (z y : Sg) (p : Nat) : Prop := z 2 p = 1 ∧ ¬ fPart c p = -1 ∧ lcP (c p) ∧ y 3 p = (if fPart c p = 0 then 1 else 2) ∧ z 3 p = c p - 97 ∧ z 4 p = fPart c p ∧ z 5 p = fVal c (fBeh p (fPart c p) + 1) ∧ z 6 p = lcI (c (fBeh p (fPart c p) + 1)) ∧ ¬ fVal c (fBeh p (fPart c p) + 1) = -1
def Con (c : Nat → Int32) (z y : Sg) (p : Nat) : Prop :=
  (z 2 p = 0 ∧ y 3 p = 0) ∨ WrC c z y p ∨ (z 2 p = 2 ∧ z 7 p = nI (p + 1) ∧ ((c p = 63 ∧ y 3 p = 3) ∨ (c p = 42 ∧ y 3 p = 4))) ∨ (z 2 p = 3 ∧ c p = 33 ∧ y 3 p = 5) ∨ (z 2 p = 4 ∧ c p = 94 ∧ y 3 p = 6 ∧ z 7 p = nI (p + 2)) ∨ (AtC c z p ∧ y 3 p = 7 ∧ ∃ j, aEnd c p = some j)
def Land (c : Nat → Int32) (i : Nat) (z : Sg) (q : Nat) : Prop := q ≤ i ∧ (q < i → c q = 125 ∨ ¬ z 2 q = 0)
def FrI (c : Nat → Int32) (i : Nat) (z y : Sg) (dp : Nat → Nat) : List Fr → Prop
  | [] => True
  | (h, o, f) :: r => (c h = 63 ∨ c h = 42) ∧ h < o ∧ o < i ∧ Ch c 64 (h + 1) o ∧ z 2 h = 2 ∧ y 5 h = nI (o + 1) ∧ Land c i z (o + 1) ∧ (∀ q, h < q → q < o → (z 2 q = 5 ↔ Cm c 64 (h + 1) q)) ∧ (∀ q, Cm c 64 (h + 1) q → y 4 q = nI h) ∧
      (match f with
        | none => y 6 h = 0
        | some w => y 6 h = nI (w + 2) ∧ w < i ∧ c w = 125 ∧ c h = 63 ∧ y 4 w = nI h ∧ dp w = r.length + 1 ∧ Land c i z (w + 2)) ∧ (∀ fr ∈ r, fr.1 < h) ∧ FrI c i z y dp r
def hds (k : List Fr) : List Nat := k.map (fun f => f.1)
def HdF (c : Nat → Int32) (i : Nat) (z y : Sg) (h o e : Nat) (f : Option Nat) : Prop :=
  (c h = 63 ∨ c h = 42) ∧ h < o ∧ o < i ∧ Ch c 64 (h + 1) o ∧ z 2 h = 2 ∧ y 5 h = nI (o + 1) ∧ Land c i z (o + 1) ∧ y 7 h = nI e ∧ Land c i z e ∧ (∀ q, Cm c 64 (h + 1) q → z 2 q = 5) ∧
    (match f with
      | none => y 6 h = 0
      | some w => y 6 h = nI (w + 2) ∧ c h = 63 ∧ Land c i z (w + 2))
def BrF (c : Nat → Int32) (i : Nat) (z y : Sg) (dp : Nat → Nat) (k : List Fr) (p : Nat) : Prop :=
  ∃ h o e f, h ∉ hds k ∧ HdF c i z y h o e f ∧ y 4 p = nI h ∧ z 9 p = nI (if c h = 42 then h + 1 else e) ∧ (¬ c h = 42 → (e = i → k.length < dp p) ∧ (e < i → c e = 125 → dp e < dp p))
def F0f (e : Nat) : Option Nat → Nat
  | none => e
  | some w => w + 2
def AtF (c : Nat → Int32) (i : Nat) (z y : Sg) (k : List Fr) (p : Nat) : Prop :=
  ∃ h o e f, h ∉ hds k ∧ HdF c i z y h o e f ∧ y 4 p = nI h ∧ Cm c 64 (h + 1) p ∧ ∃ r, FR c o (F0f e f) 64 p r ∧ z 7 p = nI (if c p = 126 then r else Tt c o p) ∧ z 8 p = nI (if c p = 126 then Tt c o p else r)
def Inv (c : Nat → Int32) (n i : Nat) (z y : Sg) (k : List Fr) (dp : Nat → Nat) : Prop :=
  i ≤ n ∧ k.length ≤ 6 ∧ z 0 3 = y 0 8 ∧ (∀ p, i ≤ p → p < 65 → z 2 p = 0 ∧ y 3 p = 0) ∧ (∀ p, p < i → Con c z y p) ∧
  (∀ p, p < i → z 2 p = 1 ∨ z 2 p = 3 → ∃ q, z 7 p = nI q ∧ y 7 p = nI q ∧ Land c i z q) ∧ (∀ p, p < i → z 2 p = 2 → z 2 (p + 1) = 5 ∧ p + 1 < i) ∧ FrI c i z y dp k ∧
  (∀ p, p < i → c p = 125 → z 2 p = 0 ∧ (1 ≤ dp p ∧ dp p ≤ 6) ∧ ((∃ fr ∈ k, fr.2.2 = some p) ∨ BrF c i z y dp k p)) ∧
  (∀ p, p < i → z 2 p = 5 → (∃ fr ∈ k, Cm c 64 (fr.1 + 1) p) ∨ AtF c i z y k p)
/-- a move of both parses: what stays -/
def Mv (c : Nat → Int32) (i i' : Nat) (z y z' y' : Sg) (k k' : List Fr) (dp dp' : Nat → Nat) (X : Nat → Prop) : Prop :=
  i < i' ∧ (c i = 125 ∨ ¬ z' 2 i = 0) ∧ (∀ p e, p < i → 2 ≤ e → e ≤ 6 → z' e p = z e p) ∧ (∀ p, p < i → ¬ z 2 p = 5 → z' 7 p = z 7 p) ∧ (∀ p e, p < i → 3 ≤ e → e ≤ 5 → y' e p = y e p) ∧ (∀ p, p < i → ¬ X p → y' 6 p = y 6 p ∧ y' 7 p = y 7 p) ∧ (∀ p, X p → z 2 p = 2) ∧
  (∀ p, p < i → dp' p = dp p) ∧ (c i = 125 → dp' i ≤ k.length) ∧ (∀ h, h < i → h ∉ hds k → h ∉ hds k' ∧ ¬ X h)
section Move
variable {c : Nat → Int32} {i i' : Nat} {z y z' y' : Sg} {k k' : List Fr} {dp dp' : Nat → Nat} {X : Nat → Prop}
theorem Mv.land (M : Mv c i i' z y z' y' k k' dp dp' X) {q : Nat} (h : Land c i z q) : Land c i' z' q := by
  obtain ⟨m1, m2, m3, -⟩ := M
  refine ⟨by have := h.1; omega, fun _ => ?_⟩
  by_cases hq : q < i
  · rw [m3 q 2 hq (by decide) (by decide)]; exact h.2 hq
  · rw [show q = i by have := h.1; omega]; exact m2
theorem Mv.con (M : Mv c i i' z y z' y' k k' dp dp' X) {p : Nat} (hp : p < i) (h : Con c z y p) : Con c z' y' p := by
  obtain ⟨m1, m2, m3, m4, m5, -⟩ := M
  have e2 := m3 p 2 hp (by decide) (by decide)
  have e3 := m3 p 3 hp (by decide) (by decide)
  have e4 := m3 p 4 hp (by decide) (by decide)
  have e5 := m3 p 5 hp (by decide) (by decide)
  have e6 := m3 p 6 hp (by decide) (by decide)
  have y3 := m5 p 3 hp (by decide) (by decide)
  unfold Con WrC at h ⊢
  rw [e2, e3, e4, e5, e6, y3]
  rcases h with h | h | h | h | h | h
  · exact Or.inl h
  · exact Or.inr (Or.inl h)
  · refine Or.inr (Or.inr (Or.inl ⟨h.1, ?_, h.2.2⟩))
    rw [m4 p hp (by rw [h.1]; decide)]; exact h.2.1
  · exact Or.inr (Or.inr (Or.inr (Or.inl h)))
  · refine Or.inr (Or.inr (Or.inr (Or.inr (Or.inl ⟨h.1, h.2.1, h.2.2.1, ?_⟩))))
    rw [m4 p hp (by rw [h.1]; decide)]; exact h.2.2.2
  · exact Or.inr (Or.inr (Or.inr (Or.inr (Or.inr ⟨h.1.mono e2 e3 e4, h.2⟩))))
theorem Mv.way (M : Mv c i i' z y z' y' k k' dp dp' X) {p : Nat} (hp : p < i) (hk : z 2 p = 1 ∨ z 2 p = 3) (h : ∃ q, z 7 p = nI q ∧ y 7 p = nI q ∧ Land c i z q) : ∃ q, z' 7 p = nI q ∧ y' 7 p = nI q ∧ Land c i' z' q := by
  obtain ⟨q, h1, h2, h3⟩ := h
  have M0 := M
  obtain ⟨m1, m2, m3, m4, m5, m6, m7, -⟩ := M
  refine ⟨q, ?_, ?_, M0.land h3⟩
  · rw [m4 p hp (fun w => by rcases hk with hk | hk <;> rw [hk] at w <;> exact absurd w (by decide))]; exact h1
  · rw [(m6 p hp (fun w => by have := m7 p w; rcases hk with hk | hk <;> rw [hk] at this <;> exact absurd this (by decide))).2]; exact h2
theorem Mv.hdF (M : Mv c i i' z y z' y' k k' dp dp' X) {h o e : Nat} {f : Option Nat} (hX : ¬ X h) (H : HdF c i z y h o e f) : HdF c i' z' y' h o e f := by
  have M0 := M
  obtain ⟨m1, m2, m3, m4, m5, m6, m7, -⟩ := M
  obtain ⟨a1, a2, a3, a4, a5, a6, a7, a8, a9, a11, a10⟩ := H
  have hi : h < i := by omega
  refine ⟨a1, a2, by omega, a4, ?_, ?_, M0.land a7, ?_, M0.land a9, fun q hq => ?_, ?_⟩
  · rw [m3 h 2 hi (by decide) (by decide)]; exact a5
  · rw [m5 h 5 hi (by decide) (by decide)]; exact a6
  · rw [(m6 h hi hX).2]; exact a8
  · have := Cm_in 64 (h + 1) o q a4 hq
    rw [m3 q 2 (by omega) (by decide) (by decide)]; exact a11 q hq
  · cases f with
    | none => show y' 6 h = 0; rw [(m6 h hi hX).1]; exact a10
    | some w => exact ⟨by rw [(m6 h hi hX).1]; exact a10.1, a10.2.1, M0.land a10.2.2⟩
theorem Mv.brF (M : Mv c i i' z y z' y' k k' dp dp' X) {p : Nat} (hp : p < i) (h9 : ∀ h, h ∉ hds k → h < i → y 4 p = nI h → z' 9 p = z 9 p) (h : BrF c i z y dp k p) : BrF c i' z' y' dp' k' p := by
  have M0 := M
  obtain ⟨m1, m2, m3, m4, m5, m6, m7, m8, m9, m10⟩ := M
  obtain ⟨h, o, e, f, b1, b2, b3, b4, b5⟩ := h
  have hi : h < i := by have := b2.2.1; have := b2.2.2.1; omega
  have hX := m10 h hi b1
  have he := b2.2.2.2.2.2.2.2.2.1.1
  refine ⟨h, o, e, f, hX.1, M0.hdF hX.2 b2, ?_, ?_, fun hl => ⟨fun w => by omega, fun w1 w2 => ?_⟩⟩
  · rw [m5 p 4 hp (by decide) (by decide)]; exact b3
  · rw [h9 h b1 hi b3]; exact b4
  · rw [m8 p hp]
    by_cases hei : e < i
    · rw [m8 e hei]; exact (b5 hl).2 hei w2
    · have : e = i := by omega
      subst this
      exact Nat.lt_of_le_of_lt (m9 w2) ((b5 hl).1 rfl)
theorem Mv.atF (M : Mv c i i' z y z' y' k k' dp dp' X) {p : Nat} (hp : p < i) (h7 : ∀ h, h ∉ hds k → h < i → y 4 p = nI h → z' 7 p = z 7 p ∧ z' 8 p = z 8 p) (h : AtF c i z y k p) : AtF c i' z' y' k' p := by
  have M0 := M
  obtain ⟨m1, m2, m3, m4, m5, m6, m7, m8, m9, m10⟩ := M
  obtain ⟨h, o, e, f, b1, b2, b3, b4, r, b5, b6, b7⟩ := h
  have hi : h < i := by have := b2.2.1; have := b2.2.2.1; omega
  have hX := m10 h hi b1
  refine ⟨h, o, e, f, hX.1, M0.hdF hX.2 b2, ?_, b4, r, b5, ?_, ?_⟩
  · rw [m5 p 4 hp (by decide) (by decide)]; exact b3
  · rw [(h7 h b1 hi b3).1]; exact b6
  · rw [(h7 h b1 hi b3).2]; exact b7
theorem Mv.frI (M : Mv c i i' z y z' y' k k' dp dp' X) : ∀ (r : List Fr), (∀ fr ∈ r, ¬ X fr.1) → FrI c i z y dp r → FrI c i' z' y' dp' r
  | [], _, _ => trivial
  | (h, o, f) :: r, hX, H => by
    have M0 := M
    obtain ⟨m1, m2, m3, m4, m5, m6, m7, m8, m9, m10⟩ := M
    obtain ⟨a1, a2, a3, a4, a5, a6, a7, a8, a9, a10, a11, a12⟩ := H
    have hi : h < i := by omega
    have hx := hX (h, o, f) List.mem_cons_self
    refine ⟨a1, a2, by omega, a4, ?_, ?_, M0.land a7, fun q q1 q2 => ?_, fun q hq => ?_, ?_, a11, Mv.frI M0 r (fun fr hf => hX fr (List.mem_cons_of_mem _ hf)) a12⟩
    · rw [m3 h 2 hi (by decide) (by decide)]; exact a5
    · rw [m5 h 5 hi (by decide) (by decide)]; exact a6
    · rw [m3 q 2 (by omega) (by decide) (by decide)]; exact a8 q q1 q2
    · have := Cm_in 64 (h + 1) o q a4 hq
      rw [m5 q 4 (by omega) (by decide) (by decide)]; exact a9 q hq
    · cases f with
      | none => show y' 6 h = 0; rw [(m6 h hi hx).1]; exact a10
      | some w =>
        obtain ⟨w1, w2, w3, w4, w5, w6, w7⟩ := a10
        exact ⟨by rw [(m6 h hi hx).1]; exact w1, by omega, w3, w4, by rw [m5 w 4 w2 (by decide) (by decide)]; exact w5, by rw [m8 w w2]; exact w6, M0.land w7⟩
end Move
theorem FrI_hd {c : Nat → Int32} {i : Nat} {z y : Sg} {dp : Nat → Nat} : ∀ (k : List Fr), FrI c i z y dp k → ∀ fr ∈ k, fr.1 < i
  | [], _, fr, h => by cases h
  | (h, o, f) :: r, H, fr, hm => by
    rcases List.mem_cons.mp hm with rfl | hm
    · have := H.2.1; have := H.2.2.1; show h < i; omega
    · exact FrI_hd r H.2.2.2.2.2.2.2.2.2.2.2 fr hm
/-- a kind that is there stands at no closing brace -/
theorem Con.n125 {c : Nat → Int32} {z y : Sg} {p : Nat} (h : Con c z y p) (h0 : ¬ z 2 p = 0) : ¬ c p = 125 ∧ 0 < y 3 p := by
  rcases h with h | h | h | h | h | h
  · exact absurd h.1 h0
  · refine ⟨(plain_lc h.2.2.1).2.2.2.1, ?_⟩
    rw [h.2.2.2.1]; split <;> decide
  · rcases h.2.2 with ⟨h1, h2⟩ | ⟨h1, h2⟩ <;> rw [h1, h2] <;> decide
  · rw [h.2.1, h.2.2]; decide
  · rw [h.2.1, h.2.2.1]; decide
  · obtain ⟨-, h2, j, h3⟩ := h
    refine ⟨((atm_some h3).2.2.1 p (Nat.le_refl _) (atm_some h3).2.1).2.2.2.1, by rw [h2]; decide⟩
