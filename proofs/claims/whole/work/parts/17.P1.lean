/-! Program: the readers of single characters -/
set_option maxRecDepth 100000 in
set_option maxHeartbeats 4000000 in
theorem c_P_charAt (l : Launch) (z : Sg) (r : List va_E) {t : Nat → Int32} {n : Nat} (i : Nat) (hp : PT z t n) (hi : i < 1000) {x : Int32} (hx : x = nI i := by rfl) : XMet l 0 q_P_charAt [.ref 0, .int x] (wP z r) (some (.int (chr t n i))) (wP z r) := by
  obtain ⟨hz, hn, rfl, ht⟩ := hp
  subst hx
  refine xm_intro (by decide +kernel) (Nat.le_of_ble_eq_true rfl) ?_
  refine xw_go xcls ok_P_charAt 40 [] ?_
  refine And.intro (fun h => ?_) (fun h => ?_)
  · exact absurd h (nI_n0 (by omega))
  · refine And.intro (fun h => ?_) (fun h => ?_)
    · rw [hz, nI_le' (by omega) (by omega)] at h
      have e : chr (z 1) n i = 0 := by simp [chr, Nat.not_lt.mpr h]
      rw [e]
      exact And.intro okc_0 ⟨rfl, rfl⟩
    · rw [hz, nI_le' (by omega) (by omega)] at h
      have e : chr (z 1) n i = z 1 i := by simp [chr, Nat.not_le.mp h]
      rw [e]
      refine And.intro (in_nI (by omega) (by omega)) ?_
      rw [cl_nI (by omega)]
      exact And.intro (ht i) ⟨rfl, rfl⟩
set_option maxRecDepth 100000 in
set_option maxHeartbeats 4000000 in
theorem c_P_charAtB (l : Launch) (z : Sg) (r : List va_E) : XMet l 0 q_P_charAt [.ref 0, .int (-1)] (wP z r) (some (.int 0)) (wP z r) := by
  refine xm_intro (by decide +kernel) (Nat.le_of_ble_eq_true rfl) ?_
  refine xw_go xcls ok_P_charAt 40 [] ?_
  refine And.intro (fun h => ?_) (fun h => absurd (by decide) h)
  exact And.intro okc_0 ⟨rfl, rfl⟩
/-- the character at a place or at none -/
def chO (c : Nat → Int32) : Option Nat → Int32
  | none => 0
  | some i => c i
theorem c_P_charAtO (l : Launch) (z : Sg) (r : List va_E) {t : Nat → Int32} {n : Nat} (o : Option Nat) (hp : PT z t n) (hi : ∀ i, o = some i → i < 1000) : XMet l 0 q_P_charAt [.ref 0, .int (oI o)] (wP z r) (some (.int (chO (chr t n) o))) (wP z r) := by
  cases o with
  | none => exact c_P_charAtB l z r
  | some i => exact c_P_charAt l z r i hp (hi i rfl)
/-- the number of a local, or -1 -/
def lcI (x : Int32) : Int32 := if 97 ≤ x ∧ x ≤ 101 then x - 97 else -1
set_option maxRecDepth 100000 in
set_option maxHeartbeats 4000000 in
theorem c_P_localOf (l : Launch) (w : List va_E) (x : Int32) : XMet l 0 q_P_localOf [.int x] w (some (.int (lcI x))) w := by
  refine xm_intro (by decide +kernel) (Nat.le_of_ble_eq_true rfl) ?_
  refine xw_go xcls ok_P_localOf 40 [] ?_
  refine And.intro (fun h => ?_) (fun h => ?_)
  · have e : lcI x = -1 := by
      unfold lcI; rw [if_neg]; intro q; exact absurd h (Int32.not_lt.mpr q.1)
    rw [e]
    exact And.intro trivial ⟨rfl, rfl⟩
  · refine And.intro (fun h2 => ?_) (fun h2 => ?_)
    · have e : lcI x = -1 := by
        unfold lcI; rw [if_neg]; intro q; exact absurd h2 (Int32.not_lt.mpr q.2)
      rw [e]
      exact And.intro trivial ⟨rfl, rfl⟩
    · have e : lcI x = x - 97 := by
        unfold lcI; rw [if_pos ⟨Int32.not_lt.mp h, Int32.not_lt.mp h2⟩]
      rw [e]
      exact And.intro trivial ⟨rfl, rfl⟩
/-- what a local, with or without a field, names at a place -/
def fPart (c : Nat → Int32) (i : Nat) : Int32 := if lcI (c i) = -1 then -1 else if c (i + 1) = 46 then (if c (i + 2) = 103 then 1 else if c (i + 2) = 104 then 2 else -1) else 0
def fVal (c : Nat → Int32) (i : Nat) : Int32 := if c i = 110 then 3 else if c i = 78 then 4 else if c i = 64 then 5 else fPart c i
def fBeh (i : Nat) (k : Int32) : Nat := if k = 1 ∨ k = 2 then i + 3 else i + 1
set_option maxRecDepth 100000 in
set_option maxHeartbeats 4000000 in
theorem c_P_partAt (l : Launch) (z : Sg) (r : List va_E) {t : Nat → Int32} {n : Nat} (i : Nat) (hp : PT z t n) (hi : i < 900) {x : Int32} (hx : x = nI i := by rfl) : XMet l 1 q_P_partAt [.ref 0, .int x] (wP z r) (some (.int (fPart (chr t n) i))) (wP z r) := by
  subst hx
  refine xm_intro (by decide +kernel) (Nat.le_of_ble_eq_true rfl) ?_
  refine xw_go xcls ok_P_partAt 60 [] ?_
  refine ⟨0, _, _, by decide, c_P_charAt l z r i hp (by omega), ?_⟩
  refine ⟨0, _, _, by decide, c_P_localOf l _ _, ?_⟩
  refine And.intro (fun h => ?_) (fun h => ?_)
  · refine ⟨0, _, _, by decide, c_P_charAt l z r (i + 1) hp (by omega) (nI_p1 i), ?_⟩
    refine And.intro (fun h2 => ?_) (fun h2 => ?_)
    · refine ⟨0, _, _, by decide, c_P_charAt l z r (i + 2) hp (by omega) (nI_p2 i), ?_⟩
      refine And.intro (fun h3 => ?_) (fun h3 => ?_)
      · refine And.intro (fun h4 => ?_) (fun h4 => ?_)
        · exact And.intro trivial ⟨by simp [fPart, h, h2, h3, h4], rfl⟩
        · exact And.intro trivial ⟨by simp [fPart, h, h2, h4], rfl⟩
      · exact And.intro trivial ⟨by simp [fPart, h, h2, h3], rfl⟩
    · exact And.intro trivial ⟨by simp [fPart, h, h2], rfl⟩
  · exact And.intro trivial ⟨by simp [fPart, h], rfl⟩
set_option maxRecDepth 100000 in
set_option maxHeartbeats 4000000 in
theorem c_P_valueAt (l : Launch) (z : Sg) (r : List va_E) {t : Nat → Int32} {n : Nat} (i : Nat) (hp : PT z t n) (hi : i < 900) {x : Int32} (hx : x = nI i := by rfl) : XMet l 2 q_P_valueAt [.ref 0, .int x] (wP z r) (some (.int (fVal (chr t n) i))) (wP z r) := by
  subst hx
  refine xm_intro (by decide +kernel) (Nat.le_of_ble_eq_true rfl) ?_
  refine xw_go xcls ok_P_valueAt 60 [] ?_
  refine ⟨0, _, _, by decide, c_P_charAt l z r i hp (by omega), ?_⟩
  refine And.intro (fun h => ?_) (fun h => ?_)
  · refine And.intro (fun h2 => ?_) (fun h2 => ?_)
    · refine And.intro (fun h3 => ?_) (fun h3 => ?_)
      · refine ⟨1, _, _, by decide, c_P_partAt l z r i hp (by omega), ?_⟩
        exact And.intro trivial ⟨by simp [fVal, h, h2, h3], rfl⟩
      · exact And.intro trivial ⟨by simp [fVal, h3], rfl⟩
    · exact And.intro trivial ⟨by simp [fVal, h2], rfl⟩
  · exact And.intro trivial ⟨by simp [fVal, h], rfl⟩
set_option maxRecDepth 100000 in
set_option maxHeartbeats 4000000 in
theorem c_P_behind (l : Launch) (w : List va_E) (i : Nat) (k : Int32) {x : Int32} (hx : x = nI i := by rfl) : XMet l 0 q_P_behind [.int x, .int k] w (some (.int (nI (fBeh i k)))) w := by
  subst hx
  refine xm_intro (by decide +kernel) (Nat.le_of_ble_eq_true rfl) ?_
  refine xw_go xcls ok_P_behind 40 [] ?_
  refine And.intro (fun h => ?_) (fun h => ?_)
  · exact And.intro trivial ⟨by simp [fBeh, h, nI_p3], rfl⟩
  · refine And.intro (fun h2 => ?_) (fun h2 => ?_)
    · exact And.intro trivial ⟨by simp [fBeh, h, h2, nI_p1], rfl⟩
    · exact And.intro trivial ⟨by simp [fBeh, h2, nI_p3], rfl⟩
set_option maxRecDepth 100000 in
set_option maxHeartbeats 4000000 in
theorem c_P_readSign (l : Launch) (z : Sg) (r : List va_E) {t : Nat → Int32} {n : Nat} (i : Nat) (k : Int32) (hp : PT z t n) (hi : i < 65) : XMet l 1 q_P_readSign [.ref 0, .int (nI i), .int k] (wP z r) (some (.int (oI (if chr t n (i + 1) = 59 then some (i + 2) else none)))) (wP (us (us z 2 i k) 7 i (nI (i + 2))) r) := by
  refine xm_intro (by decide +kernel) (Nat.le_of_ble_eq_true rfl) ?_
  refine xw_go xcls ok_P_readSign 60 [] ?_
  refine And.intro (in_nI (by omega) (by omega)) ?_
  rw [cl_nI (by omega)]
  refine And.intro (in_nI (by omega) (by omega)) ?_
  rw [cl_nI (by omega), nI_p2]
  refine ⟨0, _, _, by decide, c_P_charAt l (us (us z 2 i k) 7 i (nI (i + 2))) r (i + 1) hp (by omega) (nI_p1 i), ?_⟩
  refine And.intro (fun h => ?_) (fun h => ?_)
  · exact And.intro trivial ⟨by simp [h, oI], rfl⟩
  · exact And.intro trivial ⟨by simp [h, oI, nI_p2], rfl⟩
/-- a write, read -/
def fWrite (c : Nat → Int32) (z : Sg) (i : Nat) : Option Nat × Sg :=
  let g := fPart c i
  let s := fBeh i g
  if g = -1 ∨ ¬ c s = 61 then (none, z) else
  let v := fVal c (s + 1)
  let e := fBeh (s + 1) v
  if v = -1 ∨ ¬ c e = 59 then (none, z) else
  (some (e + 1), us (us (us (us (us (us z 2 i 1) 3 i (lcI (c i))) 4 i g) 5 i v) 6 i (lcI (c (s + 1)))) 7 i (nI (e + 1)))
theorem fBeh_le (i : Nat) (k : Int32) : fBeh i k ≤ i + 3 := by unfold fBeh; split <;> omega
set_option maxRecDepth 100000 in
set_option maxHeartbeats 4000000 in
theorem c_P_readWrite (l : Launch) (z : Sg) (r : List va_E) {t : Nat → Int32} {n : Nat} (i : Nat) (hp : PT z t n) (hi : i < 65) : XMet l 3 q_P_readWrite [.ref 0, .int (nI i)] (wP z r) (some (.int (oI (fWrite (chr t n) z i).1))) (wP (fWrite (chr t n) z i).2 r) := by
  refine xm_intro (by decide +kernel) (Nat.le_of_ble_eq_true rfl) ?_
  refine xw_go xcls ok_P_readWrite 120 [] ?_
  refine ⟨1, _, _, by decide, c_P_partAt l z r i hp (by omega), ?_⟩
  refine ⟨0, _, _, by decide, c_P_behind l _ i _, ?_⟩
  have hs := fBeh_le i (fPart (chr t n) i)
  generalize hg : fPart (chr t n) i = g at hs ⊢
  generalize hsn : fBeh i g = s at hs ⊢
  refine And.intro (fun h => ?_) (fun h => ?_)
  · exact And.intro trivial ⟨by simp [fWrite, hg, hsn, h, oI], by simp [fWrite, hg, hsn, h]⟩
  · refine ⟨0, _, _, by decide, c_P_charAt l z r s hp (by omega), ?_⟩
    refine And.intro (fun h2 => ?_) (fun h2 => ?_)
    · refine ⟨2, _, _, by decide, c_P_valueAt l z r (s + 1) hp (by omega) (nI_p1 s), ?_⟩
      refine ⟨0, _, _, by decide, c_P_behind l _ (s + 1) _ (nI_p1 s), ?_⟩
      have he := fBeh_le (s + 1) (fVal (chr t n) (s + 1))
      generalize hv : fVal (chr t n) (s + 1) = v at he ⊢
      generalize hen : fBeh (s + 1) v = e at he ⊢
      refine And.intro (fun h3 => ?_) (fun h3 => ?_)
      · exact And.intro trivial ⟨by simp [fWrite, hg, hsn, h, h2, hv, hen, h3, oI], by simp [fWrite, hg, hsn, h, h2, hv, hen, h3]⟩
      · refine ⟨0, _, _, by decide, c_P_charAt l z r e hp (by omega), ?_⟩
        refine And.intro (fun h4 => ?_) (fun h4 => ?_)
        · refine And.intro (in_nI (by omega) (by omega)) ?_
          rw [cl_nI (by omega)]
          refine ⟨0, _, _, by decide, c_P_charAt l (us z 2 i 1) r i hp (by omega), ?_⟩
          refine ⟨0, _, _, by decide, c_P_localOf l _ _, ?_⟩
          refine And.intro (in_nI (by omega) (by omega)) ?_
          rw [cl_nI (by omega)]
          refine And.intro (in_nI (by omega) (by omega)) ?_
          rw [cl_nI (by omega)]
          refine And.intro (in_nI (by omega) (by omega)) ?_
          rw [cl_nI (by omega)]
          refine ⟨0, _, _, by decide, c_P_charAt l (us (us (us (us z 2 i 1) 3 i (lcI (chr t n i))) 4 i g) 5 i v) r (s + 1) hp (by omega) (nI_p1 s), ?_⟩
          refine ⟨0, _, _, by decide, c_P_localOf l _ _, ?_⟩
          refine And.intro (in_nI (by omega) (by omega)) ?_
          rw [cl_nI (by omega)]
          refine And.intro (in_nI (by omega) (by omega)) ?_
          rw [cl_nI (by omega), nI_p1]
          have e0 : fWrite (chr t n) z i = (some (e + 1), us (us (us (us (us (us z 2 i 1) 3 i (lcI (chr t n i))) 4 i g) 5 i v) 6 i (lcI (chr t n (s + 1)))) 7 i (nI (e + 1))) := by simp [fWrite, hg, hsn, h, h2, hv, hen, h3, h4]
          rw [e0]
          exact And.intro trivial ⟨by simp [oI, nI_p1], rfl⟩
        · exact And.intro trivial ⟨by simp [fWrite, hg, hsn, h, h2, hv, hen, h4, oI], by simp [fWrite, hg, hsn, h, h2, hv, hen, h4]⟩
    · exact And.intro trivial ⟨by simp [fWrite, hg, hsn, h2, oI], by simp [fWrite, hg, hsn, h2]⟩
