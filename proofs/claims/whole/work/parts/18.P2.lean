/-! Program: atoms and conditions, blocks -/
theorem fBeh_gt (i : Nat) (k : Int32) : i < fBeh i k := by unfold fBeh; split <;> omega
/-- where an atom's name begins -/
def aNm (c : Nat → Int32) (i : Nat) : Nat := if c i = 126 then i + 1 else i
/-- where an atom ends -/
def aEnd (c : Nat → Int32) (i : Nat) : Option Nat := if c i = 37 then some (i + 1) else if fPart c (aNm c i) = -1 then none else some (fBeh (aNm c i) (fPart c (aNm c i)))
/-- what reading an atom leaves -/
def aZ (c : Nat → Int32) (z : Sg) (i : Nat) : Sg := if c i = 37 then us (us z 2 i 5) 4 i 6 else if fPart c (aNm c i) = -1 then z else us (us (us z 2 i 5) 3 i (lcI (c (aNm c i)))) 4 i (fPart c (aNm c i))
theorem aEnd_le {c : Nat → Int32} {i j : Nat} (h : aEnd c i = some j) : i < j ∧ j ≤ i + 4 := by
  have h1 := fBeh_le (aNm c i) (fPart c (aNm c i))
  have h2 := fBeh_gt (aNm c i) (fPart c (aNm c i))
  have h3 : i ≤ aNm c i ∧ aNm c i ≤ i + 1 := by unfold aNm; split <;> omega
  unfold aEnd at h
  split at h
  · cases h; omega
  · split at h
    · cases h
    · cases h; omega
theorem PT_aZ {c : Nat → Int32} {z : Sg} {i : Nat} {t : Nat → Int32} {n : Nat} (hp : PT z t n) : PT (aZ c z i) t n := by
  unfold aZ; split
  · exact hp
  · split <;> exact hp
set_option maxRecDepth 100000 in
set_option maxHeartbeats 1000000 in
theorem c_P_readAtom (l : Launch) (z : Sg) (r : List va_E) {t : Nat → Int32} {n : Nat} (i : Nat) (hp : PT z t n) (hi : i < 65) {x : Int32} (hx : x = nI i := by rfl) : XMet l 2 q_P_readAtom [.ref 0, .int x] (wP z r) (some (.int (oI (aEnd (chr t n) i)))) (wP (aZ (chr t n) z i) r) := by
  subst hx
  refine xm_intro (by decide +kernel) (Nat.le_of_ble_eq_true rfl) ?_
  have hnm : i ≤ aNm (chr t n) i ∧ aNm (chr t n) i ≤ i + 1 := by unfold aNm; split <;> omega
  have rest : ∀ (b : Nat) (x : Int32), x = nI b → b = aNm (chr t n) i → ¬ chr t n i = 37 → XW l 2 q_P_readAtom (fun a b => a = some (.int (oI (aEnd (chr t n) i))) ∧ b = wP (aZ (chr t n) z i) r) 46 [(0, .ref 0), (1, .int (nI i))] [.int x] (wP z r) := by
    intro b x hx hb h0
    subst hx
    refine xw_go xcls ok_P_readAtom 100 [] ?_
    refine ⟨1, _, _, by decide, c_P_partAt l z r b hp (by omega), ?_⟩
    generalize hg : fPart (chr t n) b = g
    refine And.intro (fun h => ?_) (fun h => ?_)
    · refine And.intro (in_nI (by omega) (by omega)) ?_
      rw [cl_nI (by omega)]
      refine ⟨0, _, _, by decide, c_P_charAt l (us z 2 i 5) r b hp (by omega), ?_⟩
      refine ⟨0, _, _, by decide, c_P_localOf l _ _, ?_⟩
      refine And.intro (in_nI (by omega) (by omega)) ?_
      rw [cl_nI (by omega)]
      refine And.intro (in_nI (by omega) (by omega)) ?_
      rw [cl_nI (by omega)]
      refine ⟨0, _, _, by decide, c_P_behind l _ b _, ?_⟩
      exact And.intro trivial ⟨by simp [aEnd, h0, ← hb, hg, h, oI], by simp [aZ, h0, ← hb, hg, h]; rfl⟩
    · exact And.intro trivial ⟨by simp [aEnd, h0, ← hb, hg, h, oI], by simp [aZ, h0, ← hb, hg, h]⟩
  refine xw_go xcls ok_P_readAtom 120 [(46, [0, 1])] ?_
  refine ⟨0, _, _, by decide, c_P_charAt l z r i hp (by omega), ?_⟩
  refine And.intro (fun h => ?_) (fun h => ?_)
  · refine ⟨0, _, _, by decide, c_P_charAt l z r i hp (by omega), ?_⟩
    refine And.intro (fun h2 => ?_) (fun h2 => ?_)
    · exact rest i (nI i) rfl (by simp [aNm, h2]) h
    · exact rest (i + 1) (nI i + 1) (nI_p1 i) (by simp [aNm, h2]) h
  · refine And.intro (in_nI (by omega) (by omega)) ?_
    rw [cl_nI (by omega)]
    refine And.intro (in_nI (by omega) (by omega)) ?_
    rw [cl_nI (by omega)]
    exact And.intro trivial ⟨by simp [aEnd, h, oI, nI_p1], by simp [aZ, h]; rfl⟩
/-- on to the next atoms, while & or | stands -/
def fCL (c : Nat → Int32) : Nat → Sg → Option Nat → Option Nat × Sg
  | 0, z, o => (o, z)
  | _ + 1, z, none => (none, z)
  | k + 1, z, some j => if c j = 38 ∨ c j = 124 then fCL c k (aZ c z (j + 1)) (aEnd c (j + 1)) else (some j, z)
theorem chr_lt {t : Nat → Int32} {n i : Nat} {x : Int32} (h : chr t n i = x) (hx : ¬ x = 0) : i < n := by
  unfold chr at h; split at h
  · assumption
  · exact absurd h.symm hx
set_option maxRecDepth 100000 in
set_option maxHeartbeats 1000000 in
theorem lp_P_readCondition (l : Launch) (r : List va_E) {t : Nat → Int32} {n : Nat} (i : Nat) : ∀ (m : Nat) (z : Sg) (o : Option Nat), PT z t n → m ≤ 64 → (∀ j, o = some j → j < 900) →
    XW l 3 q_P_readCondition (fun a b => a = some (.int (oI (fCL (chr t n) m z o).1)) ∧ b = wP (fCL (chr t n) m z o).2 r) 26 [(0, .ref 0), (1, .int (nI i)), (2, .int (oI o)), (3, .int (nI (64 - m)))] [] (wP z r)
  | 0, z, o, hp, hm, ho => by
    refine xw_go xcls ok_P_readCondition 60 [] ?_
    refine And.intro (fun h => ?_) (fun h => absurd (by decide) h)
    exact And.intro trivial ⟨rfl, rfl⟩
  | m + 1, z, o, hp, hm, ho => by
    refine xw_go xcls ok_P_readCondition 60 [(26, [0, 1, 2, 3])] ?_
    refine And.intro (fun h => ?_) (fun h => ?_)
    · exact absurd h (by rw [show (64 : Int32) = nI 64 from rfl, nI_le' (by omega) (by omega)]; omega)
    · have hn := hp.2.1
      refine ⟨0, _, _, by decide, c_P_charAtO l z r o hp (fun j hj => by have := ho j hj; omega), ?_⟩
      refine And.intro (fun h2 => ?_) (fun h2 => ?_)
      · cases o with
        | none => exact absurd h2 (by simp [chO])
        | some j =>
          have hj : j < n := chr_lt h2 (by decide)
          refine ⟨2, _, _, by decide, c_P_readAtom l z r (j + 1) hp (by omega) (nI_p1 j), ?_⟩
          have ih := lp_P_readCondition l r i m (aZ (chr t n) z (j + 1)) (aEnd (chr t n) (j + 1)) (PT_aZ hp) (by omega) (fun q hq => by have := aEnd_le hq; omega)
          have e : fCL (chr t n) (m + 1) z (some j) = fCL (chr t n) m (aZ (chr t n) z (j + 1)) (aEnd (chr t n) (j + 1)) := by
            have h2' : chr t n j = 38 := h2
            simp [fCL, h2']
          rw [e]
          rw [show nI (64 - m) = nI (64 - (m + 1)) + 1 by rw [nI_p1]; congr 1; omega] at ih
          exact ih
      · refine ⟨0, _, _, by decide, c_P_charAtO l z r o hp (fun j hj => by have := ho j hj; omega), ?_⟩
        refine And.intro (fun h3 => ?_) (fun h3 => ?_)
        · have e : fCL (chr t n) (m + 1) z o = (o, z) := by
            cases o with
            | none => rfl
            | some j =>
              have h2' : ¬ chr t n j = 38 := h2
              have h3' : ¬ chr t n j = 124 := h3
              simp [fCL, h2', h3']
          rw [e]
          exact And.intro trivial ⟨rfl, rfl⟩
        · cases o with
          | none => exact absurd h3 (by simp [chO])
          | some j =>
            have hj : j < n := chr_lt h3 (by decide)
            refine ⟨2, _, _, by decide, c_P_readAtom l z r (j + 1) hp (by omega) (nI_p1 j), ?_⟩
            have ih := lp_P_readCondition l r i m (aZ (chr t n) z (j + 1)) (aEnd (chr t n) (j + 1)) (PT_aZ hp) (by omega) (fun q hq => by have := aEnd_le hq; omega)
            have e : fCL (chr t n) (m + 1) z (some j) = fCL (chr t n) m (aZ (chr t n) z (j + 1)) (aEnd (chr t n) (j + 1)) := by
              have h2' : chr t n j = 124 := h3
              simp [fCL, h2']
            rw [e]
            rw [show nI (64 - m) = nI (64 - (m + 1)) + 1 by rw [nI_p1]; congr 1; omega] at ih
            exact ih
