/-! the class's cells: 0 Program (1 text, 2 kind, 3 local, 4 part, 5 value, 6 source, 7 way, 8 otherWay, 9 exit, 10 heads, 11 opens, 12 firstCloses), 13 Checker (14 states, 15 alarmsAt), 16 Machine (17 holds, 18 fieldG, 19 fieldH), 20 NullGuard -/
abbrev Sg : Type := Nat → Nat → Int32
/-- one place of one cell set anew -/
def us (z : Sg) (c j : Nat) (x : Int32) : Sg := fun a => if a = c then upd (z c) j x else z a
/-- one cell set anew -/
def uc (z : Sg) (c : Nat) (f : Nat → Int32) : Sg := fun a => if a = c then f else z a
def wP (z : Sg) (r : List va_E) : List va_E :=
  .inr (0, [.ref 1, .int (z 0 1), .int (z 0 2), .int (z 0 3), .ref 2, .ref 3, .ref 4, .ref 5, .ref 6, .ref 7, .ref 8, .ref 9, .ref 10, .ref 11, .ref 12, .int (z 0 15)])
  :: .inl (1, 64, .inl (z 1)) :: .inl (0, 65, .inl (z 2)) :: .inl (0, 65, .inl (z 3)) :: .inl (0, 65, .inl (z 4)) :: .inl (0, 65, .inl (z 5)) :: .inl (0, 65, .inl (z 6)) :: .inl (0, 65, .inl (z 7)) :: .inl (0, 65, .inl (z 8)) :: .inl (0, 65, .inl (z 9))
  :: .inl (0, 6, .inl (z 10)) :: .inl (0, 6, .inl (z 11)) :: .inl (0, 6, .inl (z 12)) :: r
def wC (z : Sg) (r : List va_E) : List va_E := .inr (1, [.ref 14, .ref 15, .int (z 13 2), .int (z 13 3), .int (z 13 4)]) :: .inl (0, 65, .inl (z 14)) :: .inl (0, 65, .inl (z 15)) :: r
def wH (z : Sg) (o : Int64) (r : List va_E) : List va_E := .inr (2, [.ref 17, .ref 18, .ref 19, .int (z 16 3), .int (z 16 4), .long o, .int (z 16 6)]) :: .inl (0, 5, .inl (z 17)) :: .inl (0, 8, .inl (z 18)) :: .inl (0, 8, .inl (z 19)) :: r
def wN (z : Sg) (r : List va_E) : List va_E := .inr (3, [.ref 0, .ref 13, .ref 16, .int (z 20 3), .int (z 20 4)]) :: r
/-- the whole class -/
def wX (z : Sg) (o : Int64) : List va_E := wP z (wC z (wH z o (wN z [])))
theorem us_s {z : Sg} {c j : Nat} {x : Int32} : us z c j x c = upd (z c) j x := by simp [us]
theorem us_n {z : Sg} {c j a : Nat} {x : Int32} (h : a ≠ c) : us z c j x a = z a := by simp [us, h]
theorem uc_s {z : Sg} {c : Nat} {f : Nat → Int32} : uc z c f c = f := by simp [uc]
theorem uc_n {z : Sg} {c a : Nat} {f : Nat → Int32} (h : a ≠ c) : uc z c f a = z a := by simp [uc, h]
/-- a place in the text, or none -/
def oI : Option Nat → Int32
  | none => -1
  | some i => nI i
/-- the character at a place: nothing behind the text -/
def chr (t : Nat → Int32) (n i : Nat) : Int32 := if i < n then t i else 0
abbrev xch (z : Sg) (n i : Nat) : Int32 := chr (z 1) n i
theorem nI_p1 (i : Nat) : nI i + 1 = nI (i + 1) := nI_add i 1
theorem nI_p2 (i : Nat) : nI i + 2 = nI (i + 2) := nI_add i 2
theorem nI_p3 (i : Nat) : nI i + 3 = nI (i + 3) := nI_add i 3
theorem cl_nI {i : Nat} (h : i < 2000) : (nI i).toNatClampNeg = i := nI_clamp (by omega)
theorem in_nI {i N : Nat} (h : i < N) (hN : N < 2000) : vp_in (nI i) N := vp_in_nI h (by omega)
theorem nI_le' {a b : Nat} (ha : a < 2000) (hb : b < 2000) : nI a ≤ nI b ↔ a ≤ b := nI_leI (by omega) (by omega)
theorem nI_lt' {a b : Nat} (ha : a < 2000) (hb : b < 2000) : nI a < nI b ↔ a < b := nI_ltI (by omega) (by omega)
theorem nI_eq' {a b : Nat} (ha : a < 2000) (hb : b < 2000) : nI a = nI b ↔ a = b := nI_eq (by omega) (by omega)
theorem nI_n0 {a : Nat} (ha : a < 2000) : ¬ nI a < 0 := nI_pos (by omega)
theorem nI_g0 {a : Nat} (ha : a < 2000) : 0 ≤ nI a := nI_pos' (by omega)
theorem nI_nm1 {a : Nat} (ha : a < 2000) : ¬ nI a = -1 := fun h => nI_n0 ha (by rw [h]; decide)
/-- a value that a char may hold -/
abbrev okc (x : Int32) : Prop := narrow .char (.int x) = .int x ∧ fits .char (.int x) = true
theorem okc_0 : okc 0 := by decide
def okt (t : Nat → Int32) : Prop := ∀ j, okc (t j)
theorem okc_chr {t : Nat → Int32} {n i : Nat} (h : okt t) : okc (chr t n i) := by
  unfold chr; split
  · exact h i
  · exact okc_0
/-- the text of the program: its characters, their number -/
def PT (z : Sg) (t : Nat → Int32) (n : Nat) : Prop := z 0 1 = nI n ∧ n ≤ 64 ∧ z 1 = t ∧ okt t
