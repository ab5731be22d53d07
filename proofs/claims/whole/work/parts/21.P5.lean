/-! Arrays.fill, a statement, the whole text -/
theorem xn_xu {α : Type} : ∀ (w : List α) (j : Nat) (e e0 : α), xn w j = some e0 → xn (xu w j e) j = some e
  | [], j, e, e0, h => by cases h
  | a :: r, 0, e, e0, h => rfl
  | a :: r, j + 1, e, e0, h => xn_xu r j e e0 h
theorem xu_xu {α : Type} : ∀ (w : List α) (j : Nat) (e e1 : α), xu (xu w j e) j e1 = xu w j e1
  | [], j, e, e1 => rfl
  | a :: r, 0, e, e1 => rfl
  | a :: r, j + 1, e, e1 => by simp only [xu]; rw [xu_xu r j e e1]
theorem xu_id {α : Type} : ∀ (w : List α) (j : Nat) (e : α), xn w j = some e → xu w j e = w
  | [], j, e, h => rfl
  | a :: r, 0, e, h => by have h : a = e := Option.some.inj h; subst h; rfl
  | a :: r, j + 1, e, h => by simp only [xu]; rw [xu_id r j e h]
theorem xar_i {w : List va_E} {i t n : Nat} {a : Nat → Int32} {f : Nat → (Nat → Int32) → Prop} (h : xn w i = some (.inl (t, n, .inl a))) (k : f n a) : xar w i t f := by
  unfold xar; rw [h]; simp only [Nat.beq_refl]; exact k
def fFill (n : Nat) (a : Nat → Int32) (x : Int32) (k : Nat) : Nat → Int32 := fun i => if i < k then x else a i
theorem fFill_s {n : Nat} {a : Nat → Int32} {x : Int32} {k : Nat} : upd (fFill n a x k) k x = fFill n a x (k + 1) := by
  funext j
  unfold upd fFill
  by_cases h : j = k
  · subst h; simp
  · have : j < k + 1 ↔ j < k := by omega
    simp [h, this]
set_option maxRecDepth 100000 in
set_option maxHeartbeats 1000000 in
theorem lp_JA_fill (l : Launch) (w : List va_E) (j n : Nat) (a : Nat → Int32) (x : Int32) (hw : xn w j = some (.inl (0, n, .inl a))) (hn : n < 1000) : ∀ (m k : Nat), k + m = n →
    XW l 0 q_JA_fill (fun u b => u = none ∧ b = xu w j (.inl (0, n, .inl (fFill n a x n)))) 5 [(0, .ref j), (1, .int x), (2, .int (nI k)), (3, .int (nI n))] [] (xu w j (.inl (0, n, .inl (fFill n a x k))))
  | 0, k, hk => by
    have hk : k = n := hk
    subst hk
    refine xw_go xcls ok_JA_fill 40 [] ?_
    refine And.intro (fun h => ?_) (fun h => absurd ((nI_le' (by omega) (by omega)).mpr (Nat.le_refl _)) h)
    exact And.intro rfl ⟨rfl, rfl⟩
  | m + 1, k, hk => by
    have ih := lp_JA_fill l w j n a x hw hn m (k + 1) (by omega)
    refine xw_go xcls ok_JA_fill 40 [(5, [0, 1, 2, 3])] ?_
    refine And.intro (fun h => absurd ((nI_le' (by omega) (by omega)).mp h) (by omega)) (fun h => ?_)
    refine xar_i (xn_xu w j _ _ hw) (And.intro (in_nI (by omega) (by omega)) ?_)
    rw [cl_nI (by omega), xu_xu, fFill_s]
    rw [← nI_p1 k] at ih
    exact ih
set_option maxRecDepth 100000 in
set_option maxHeartbeats 1000000 in
theorem c_JA_fill (l : Launch) (w : List va_E) (j n : Nat) (a : Nat → Int32) (x : Int32) (hw : xn w j = some (.inl (0, n, .inl a))) (hn : n < 1000) : XMet l 0 q_JA_fill [.ref j, .int x] w none (xu w j (.inl (0, n, .inl (fFill n a x n)))) := by
  refine xm_intro (by decide +kernel) (Nat.le_of_ble_eq_true rfl) ?_
  refine xw_go xcls ok_JA_fill 40 [(5, [0, 1, 2, 3])] ?_
  refine xar_i hw ?_
  have h := lp_JA_fill l w j n a x hw hn n 0 (by omega)
  rw [show fFill n a x 0 = a from by funext i; simp [fFill], xu_id w j _ hw] at h
  exact h
-- what reading a condition leaves as it was
theorem aZ_n {c : Nat → Int32} {z : Sg} {i a : Nat} (h2 : a ≠ 2) (h3 : a ≠ 3) (h4 : a ≠ 4) : aZ c z i a = z a := by
  unfold aZ; split
  · simp [us, h2, h4]
  · split
    · rfl
    · simp [us, h2, h3, h4]
theorem fCL_n {c : Nat → Int32} {a : Nat} (h2 : a ≠ 2) (h3 : a ≠ 3) (h4 : a ≠ 4) : ∀ (k : Nat) (z : Sg) (o : Option Nat), (fCL c k z o).2 a = z a
  | 0, z, o => rfl
  | k + 1, z, none => rfl
  | k + 1, z, some j => by
    unfold fCL; split
    · rw [fCL_n h2 h3 h4 k, aZ_n h2 h3 h4]
    · rfl
theorem fCond_n {c : Nat → Int32} {z : Sg} {i a : Nat} (h2 : a ≠ 2) (h3 : a ≠ 3) (h4 : a ≠ 4) (h7 : a ≠ 7) : (fCond c z i).2 a = z a := by
  unfold fCond; rw [fCL_n h2 h3 h4, aZ_n h2 h3 h4]; simp [us, h2, h7]
theorem fCL_b {t : Nat → Int32} {n : Nat} (hn : n ≤ 64) : ∀ (k : Nat) (z : Sg) (o : Option Nat), (∀ j, o = some j → j < 900) → ∀ j, (fCL (chr t n) k z o).1 = some j → j < 900
  | 0, z, o, h, j, e => h j e
  | k + 1, z, none, h, j, e => by cases e
  | k + 1, z, some q, h, j, e => by
    unfold fCL at e; split at e
    · rename_i hc
      have hq : q < n := by rcases hc with hc | hc <;> exact chr_lt hc (by decide)
      exact fCL_b hn k _ _ (fun j hj => by have := aEnd_le hj; omega) j e
    · exact h j e
def fPush (i : Nat) : Option Nat → Option Nat → List Fr → List Fr
  | some j, some _, k => (i, j, none) :: k
  | _, _, k => k
/-- a statement at i, read (of a ? or * up to its first block) -/
def fStmt (c : Nat → Int32) (z : Sg) (i : Nat) (k : List Fr) : Option Nat × Sg × List Fr :=
  if c i = 63 ∨ c i = 42 then
    ((fOpen c (fCond c (us z 0 3 (z 0 3 + 1)) i).2 k.length i (fCond c (us z 0 3 (z 0 3 + 1)) i).1).1, (fOpen c (fCond c (us z 0 3 (z 0 3 + 1)) i).2 k.length i (fCond c (us z 0 3 (z 0 3 + 1)) i).1).2, fPush i (fCond c (us z 0 3 (z 0 3 + 1)) i).1 (fOpen c (fCond c (us z 0 3 (z 0 3 + 1)) i).2 k.length i (fCond c (us z 0 3 (z 0 3 + 1)) i).1).1 k)
  else if c i = 33 then (if c (i + 1) = 59 then some (i + 2) else none, us (us (us z 0 3 (z 0 3 + 1)) 2 i 3) 7 i (nI (i + 2)), k)
  else if c i = 94 then (if c (i + 1) = 59 then some (i + 2) else none, us (us (us z 0 3 (z 0 3 + 1)) 2 i 4) 7 i (nI (i + 2)), k)
  else ((fWrite c (us z 0 3 (z 0 3 + 1)) i).1, (fWrite c (us z 0 3 (z 0 3 + 1)) i).2, k)
set_option maxRecDepth 100000 in
set_option maxHeartbeats 1000000 in
theorem c_P_readStatement (l : Launch) (z : Sg) (r : List va_E) {t : Nat → Int32} {n : Nat} (i : Nat) (k : List Fr) (hp : PT z t n) (hi : i < 64) (hs : PStk z k) : XMet l 4 q_P_readStatement [.ref 0, .int (nI i)] (wP z r) (some (.int (oI (fStmt (chr t n) z i k).1))) (wP (fStmt (chr t n) z i k).2.1 r) := by
  have hn := hp.2.1
  refine xm_intro (by decide +kernel) (Nat.le_of_ble_eq_true rfl) ?_
  have hp1 : PT (us z 0 3 (z 0 3 + 1)) t n := hp
  have hs1 : (us z 0 3 (z 0 3 + 1)) 0 15 = nI k.length := hs.1
  have cnd : chr t n i = 63 ∨ chr t n i = 42 → XW l 4 q_P_readStatement (fun a b => a = some (.int (oI (fStmt (chr t n) z i k).1)) ∧ b = wP (fStmt (chr t n) z i k).2.1 r) 28 [(0, .ref 0), (1, .int (nI i))] [] (wP (us z 0 3 (z 0 3 + 1)) r) := by
    intro hc
    refine xw_go xcls ok_P_readStatement 60 [] ?_
    refine ⟨3, _, _, by decide, c_P_readCondition l (us z 0 3 (z 0 3 + 1)) r i hp1 hi, ?_⟩
    refine ⟨1, _, _, by decide, c_P_openBlock l (fCond (chr t n) (us z 0 3 (z 0 3 + 1)) i).2 r k.length i _ (PT_fCond hp1) (by rw [fCond_n (by decide) (by decide) (by decide) (by decide)]; exact hs1) hs.2.1 (fCL_b hn _ _ _ (fun j hj => by have := aEnd_le hj; omega)), ?_⟩
    exact And.intro trivial ⟨by simp [fStmt, hc], by simp [fStmt, hc]⟩
  refine xw_go xcls ok_P_readStatement 60 [(28, [0, 1])] ?_
  refine And.intro trivial ?_
  refine ⟨0, _, _, by decide, c_P_charAt l (us z 0 3 (z 0 3 + 1)) r i hp1 (by omega), ?_⟩
  refine And.intro (fun h => ?_) (fun h => ?_)
  · exact cnd (Or.inl h)
  · refine And.intro (fun h2 => ?_) (fun h2 => ?_)
    · refine And.intro (fun h3 => ?_) (fun h3 => ?_)
      · refine And.intro (fun h4 => ?_) (fun h4 => ?_)
        · refine ⟨3, _, _, by decide, c_P_readWrite l (us z 0 3 (z 0 3 + 1)) r i hp1 (by omega), ?_⟩
          exact And.intro trivial ⟨by simp [fStmt, h, h2, h3, h4], by simp [fStmt, h, h2, h3, h4]⟩
        · refine ⟨1, _, _, by decide, c_P_readSign l (us z 0 3 (z 0 3 + 1)) r i 4 hp1 (by omega), ?_⟩
          exact And.intro trivial ⟨by simp [fStmt, h4], by simp [fStmt, h4]⟩
      · refine ⟨1, _, _, by decide, c_P_readSign l (us z 0 3 (z 0 3 + 1)) r i 3 hp1 (by omega), ?_⟩
        exact And.intro trivial ⟨by simp [fStmt, h3], by simp [fStmt, h3]⟩
    · exact cnd (Or.inr h2)
