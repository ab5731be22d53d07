/-! Program: conditions, blocks, the ways out of them -/
def fCond (c : Nat → Int32) (z : Sg) (i : Nat) : Option Nat × Sg := fCL c 64 (aZ c (us (us z 2 i 2) 7 i (nI (i + 1))) (i + 1)) (aEnd c (i + 1))
theorem PT_fCL {c t : Nat → Int32} {n : Nat} : ∀ (k : Nat) (z : Sg) (o : Option Nat), PT z t n → PT (fCL c k z o).2 t n
  | 0, z, o, h => h
  | k + 1, z, none, h => h
  | k + 1, z, some j, h => by
    unfold fCL; split
    · exact PT_fCL k _ _ (PT_aZ h)
    · exact h
theorem PT_fCond {c t : Nat → Int32} {n : Nat} {z : Sg} {i : Nat} (h : PT z t n) : PT (fCond c z i).2 t n := PT_fCL _ _ _ (PT_aZ h)
set_option maxRecDepth 100000 in
set_option maxHeartbeats 1000000 in
theorem c_P_readCondition (l : Launch) (z : Sg) (r : List va_E) {t : Nat → Int32} {n : Nat} (i : Nat) (hp : PT z t n) (hi : i < 64) : XMet l 3 q_P_readCondition [.ref 0, .int (nI i)] (wP z r) (some (.int (oI (fCond (chr t n) z i).1))) (wP (fCond (chr t n) z i).2 r) := by
  refine xm_intro (by decide +kernel) (Nat.le_of_ble_eq_true rfl) ?_
  refine xw_go xcls ok_P_readCondition 60 [(26, [0, 1, 2, 3])] ?_
  refine And.intro (in_nI (by omega) (by omega)) ?_
  rw [cl_nI (by omega)]
  refine And.intro (in_nI (by omega) (by omega)) ?_
  rw [cl_nI (by omega), nI_p1]
  refine ⟨2, _, _, by decide, c_P_readAtom l (us (us z 2 i 2) 7 i (nI (i + 1))) r (i + 1) hp (by omega) (nI_p1 i), ?_⟩
  exact lp_P_readCondition l r i 64 _ (aEnd (chr t n) (i + 1)) (PT_aZ hp) (by omega) (fun q hq => by have := aEnd_le hq; omega)
def fOpen (c : Nat → Int32) (z : Sg) (d i : Nat) : Option Nat → Option Nat × Sg
  | none => (none, z)
  | some j => if c j = 123 ∧ d < 6 then (some (j + 1), us (us (us (us z 10 d (nI i)) 11 d (nI j)) 12 d (-1)) 0 15 (nI (d + 1))) else (none, z)
set_option maxRecDepth 100000 in
set_option maxHeartbeats 1000000 in
theorem c_P_openBlock (l : Launch) (z : Sg) (r : List va_E) {t : Nat → Int32} {n : Nat} (d i : Nat) (o : Option Nat) (hp : PT z t n) (hd : z 0 15 = nI d) (hd6 : d ≤ 6) (ho : ∀ j, o = some j → j < 900) : XMet l 1 q_P_openBlock [.ref 0, .int (nI i), .int (oI o)] (wP z r) (some (.int (oI (fOpen (chr t n) z d i o).1))) (wP (fOpen (chr t n) z d i o).2 r) := by
  refine xm_intro (by decide +kernel) (Nat.le_of_ble_eq_true rfl) ?_
  refine xw_go xcls ok_P_openBlock 80 [] ?_
  refine ⟨0, _, _, by decide, c_P_charAtO l z r o hp (fun j hj => by have := ho j hj; omega), ?_⟩
  refine And.intro (fun h => ?_) (fun h => ?_)
  · have e : fOpen (chr t n) z d i o = (none, z) := by
      cases o with
      | none => rfl
      | some j =>
        have h' : ¬ chr t n j = 123 := h
        simp [fOpen, h']
    rw [e]
    exact And.intro trivial ⟨rfl, rfl⟩
  · cases o with
    | none => exact absurd h (by simp [chO])
    | some j =>
      have h' : chr t n j = 123 := h
      refine And.intro (fun h2 => ?_) (fun h2 => ?_)
      · rw [hd, show (6 : Int32) = nI 6 from rfl, nI_lt' (by omega) (by omega)] at h2
        have e : fOpen (chr t n) z d i (some j) = (some (j + 1), us (us (us (us z 10 d (nI i)) 11 d (nI j)) 12 d (-1)) 0 15 (nI (d + 1))) := by simp [fOpen, h', h2]
        rw [e]
        refine And.intro (by rw [hd]; exact in_nI (by omega) (by omega)) ?_
        rw [hd, cl_nI (by omega)]
        refine And.intro (by rw [hd]; exact in_nI (by omega) (by omega)) ?_
        rw [hd, cl_nI (by omega)]
        refine And.intro (by rw [hd]; exact in_nI (by omega) (by omega)) ?_
        rw [hd, cl_nI (by omega)]
        refine And.intro trivial ?_
        rw [hd, nI_p1]
        exact And.intro trivial ⟨by simp [oI, nI_p1], rfl⟩
      · rw [hd, show (6 : Int32) = nI 6 from rfl, nI_lt' (by omega) (by omega)] at h2
        have e : fOpen (chr t n) z d i (some j) = (none, z) := by simp [fOpen, h2]
        rw [e]
        exact And.intro trivial ⟨rfl, rfl⟩
/-- the ways of the atoms of a head, from behind: the atoms stand behind h and ahead of o -/
def fLk (c : Nat → Int32) (o h : Nat) : Nat → Sg → Nat → Nat → Sg
  | 0, z, _, _ => z
  | m + 1, z, T, F => if c (h + (m + 1)) = 124 then fLk c o h m z (o + 1) T else if z 2 (h + (m + 1)) = 5 then fLk c o h m (us (us z 7 (h + (m + 1)) (nI (if c (h + (m + 1)) = 126 then F else T))) 8 (h + (m + 1)) (nI (if c (h + (m + 1)) = 126 then T else F))) (h + (m + 1)) F else fLk c o h m z T F
set_option maxRecDepth 100000 in
set_option maxHeartbeats 1000000 in
theorem lp_P_linkAtoms (l : Launch) (r : List va_E) {t : Nat → Int32} {n : Nat} (o h : Nat) : ∀ (m : Nat) (z : Sg) (T F : Nat), PT z t n → h + m < 65 →
    XW l 1 q_P_linkAtoms (fun a b => a = none ∧ b = wP (fLk (chr t n) o h m z T F) r) 13 [(0, .ref 0), (1, .int (nI (h + 1))), (2, .int (nI o)), (4, .int (nI T)), (5, .int (nI F)), (6, .int (nI (h + m)))] [] (wP z r)
  | 0, z, T, F, hp, hm => by
    refine xw_go xcls ok_P_linkAtoms 60 [] ?_
    refine And.intro (fun h1 => ?_) (fun h1 => absurd ((nI_lt' (by omega) (by omega)).mpr (by omega)) h1)
    exact And.intro rfl ⟨rfl, rfl⟩
  | m + 1, z, T, F, hp, hm => by
    refine xw_go xcls ok_P_linkAtoms 80 [(13, [0, 1, 2, 4, 5, 6])] ?_
    refine And.intro (fun h1 => absurd ((nI_lt' (by omega) (by omega)).mp h1) (by omega)) (fun h1 => ?_)
    refine ⟨0, _, _, by decide, c_P_charAt l z r (h + (m + 1)) hp (by omega), ?_⟩
    refine And.intro (fun h2 => ?_) (fun h2 => ?_)
    · refine And.intro (in_nI (by omega) (by omega)) ?_
      rw [cl_nI (by omega)]
      refine And.intro (fun h3 => ?_) (fun h3 => ?_)
      · have ih := lp_P_linkAtoms l r o h m z T F hp (by omega)
        have e : fLk (chr t n) o h (m + 1) z T F = fLk (chr t n) o h m z T F := by simp [fLk, h2, h3]
        rw [e]
        rw [show nI (h + m) = nI (h + (m + 1)) + (-1) from (pk_m1 (h + m)).symm] at ih
        exact ih
      · refine ⟨0, _, _, by decide, c_P_charAt l z r (h + (m + 1)) hp (by omega), ?_⟩
        refine And.intro (fun h4 => ?_) (fun h4 => ?_)
        · refine And.intro (fun h5 => ?_) (fun h5 => absurd rfl h5)
          refine And.intro (in_nI (by omega) (by omega)) ?_
          rw [cl_nI (by omega)]
          refine And.intro (fun h5 => ?_) (fun h5 => absurd rfl h5)
          refine And.intro (in_nI (by omega) (by omega)) ?_
          rw [cl_nI (by omega)]
          have ih := lp_P_linkAtoms l r o h m (us (us z 7 (h + (m + 1)) (nI T)) 8 (h + (m + 1)) (nI F)) (h + (m + 1)) F hp (by omega)
          have e : fLk (chr t n) o h (m + 1) z T F = fLk (chr t n) o h m (us (us z 7 (h + (m + 1)) (nI T)) 8 (h + (m + 1)) (nI F)) (h + (m + 1)) F := by simp [fLk, h2, h3, h4]
          rw [e]
          rw [show nI (h + m) = nI (h + (m + 1)) + (-1) from (pk_m1 (h + m)).symm] at ih
          exact ih
        · refine And.intro (fun h5 => absurd h5 (by decide)) (fun h5 => ?_)
          refine And.intro (in_nI (by omega) (by omega)) ?_
          rw [cl_nI (by omega)]
          refine And.intro (fun h5 => absurd h5 (by decide)) (fun h5 => ?_)
          refine And.intro (in_nI (by omega) (by omega)) ?_
          rw [cl_nI (by omega)]
          have ih := lp_P_linkAtoms l r o h m (us (us z 7 (h + (m + 1)) (nI F)) 8 (h + (m + 1)) (nI T)) (h + (m + 1)) F hp (by omega)
          have e : fLk (chr t n) o h (m + 1) z T F = fLk (chr t n) o h m (us (us z 7 (h + (m + 1)) (nI F)) 8 (h + (m + 1)) (nI T)) (h + (m + 1)) F := by simp [fLk, h3, h4]
          rw [e]
          rw [show nI (h + m) = nI (h + (m + 1)) + (-1) from (pk_m1 (h + m)).symm] at ih
          exact ih
    · have ih := lp_P_linkAtoms l r o h m z (o + 1) T hp (by omega)
      have e : fLk (chr t n) o h (m + 1) z T F = fLk (chr t n) o h m z (o + 1) T := by simp [fLk, h2]
      rw [e]
      rw [show nI (h + m) = nI (h + (m + 1)) + (-1) from (pk_m1 (h + m)).symm, ← nI_p1 o] at ih
      exact ih
set_option maxRecDepth 100000 in
set_option maxHeartbeats 1000000 in
theorem c_P_linkAtoms (l : Launch) (z : Sg) (r : List va_E) {t : Nat → Int32} {n : Nat} (h o F : Nat) (hp : PT z t n) (ho : h < o) (ho2 : o < 65) {x : Int32} (hx : x = nI (h + 1) := by rfl) : XMet l 1 q_P_linkAtoms [.ref 0, .int x, .int (nI o), .int (nI F)] (wP z r) none (wP (fLk (chr t n) o h (o - 1 - h) z (o + 1) F) r) := by
  subst hx
  refine xm_intro (by decide +kernel) (Nat.le_of_ble_eq_true rfl) ?_
  refine xw_go xcls ok_P_linkAtoms 60 [(13, [0, 1, 2, 4, 5, 6])] ?_
  have ih := lp_P_linkAtoms l r o h (o - 1 - h) z (o + 1) F hp (by omega)
  rw [show nI (h + (o - 1 - h)) = nI o - 1 by rw [show h + (o - 1 - h) = o - 1 by omega]; conv => rhs; rw [show o = (o - 1) + 1 by omega]
                                              rw [nI_pred], ← nI_p1 o] at ih
  exact ih
