/-! Program: the end of a block, the ways out of blocks, a statement -/
/-- a head whose block is open: its place, its first '{', its first '}' once the second block has begun -/
abbrev Fr : Type := Nat × Nat × Option Nat
def okF (f : Fr) : Prop := f.1 < f.2.1 ∧ f.2.1 < 65 ∧ ∀ y, f.2.2 = some y → y < 65
def RSk (z : Sg) : List Fr → Prop
  | [] => True
  | f :: r => z 10 r.length = nI f.1 ∧ z 11 r.length = nI f.2.1 ∧ z 12 r.length = oI f.2.2 ∧ okF f ∧ RSk z r
def PStk (z : Sg) (k : List Fr) : Prop := z 0 15 = nI k.length ∧ k.length ≤ 6 ∧ RSk z k
def clF (i : Nat) : Option Nat → Nat
  | none => i + 1
  | some y => y + 2
def clZ (z : Sg) (i : Nat) : Option Nat → Sg
  | none => z
  | some y => us z 9 y (nI (i + 1))
/-- what a '}' at i does -/
def fClose (c : Nat → Int32) (z : Sg) (i : Nat) : List Fr → Option Nat × Sg × List Fr
  | [] => (none, z, [])
  | (h, o, f) :: r => if ¬ c h = 42 ∧ f = none ∧ c (i + 1) = 123 then (some (i + 2), us z 12 r.length (nI i), (h, o, some i) :: r) else
      (some (i + 1), fLk c o h (o - 1 - h) (clZ (us (us z 0 15 (nI r.length)) 9 i (nI (if c h = 42 then h + 1 else i + 1))) i f) (o + 1) (clF i f), r)
theorem PT_clZ {z : Sg} {i : Nat} {f : Option Nat} {t : Nat → Int32} {n : Nat} (h : PT z t n) : PT (clZ z i f) t n := by cases f <;> exact h
theorem nI_p {i : Nat} : nI (i + 1) - 1 = nI i := nI_pred i
theorem oI_m1 {f : Option Nat} (h : ∀ y, f = some y → y < 2000) : oI f = -1 ↔ f = none := by
  cases f with
  | none => simp [oI]
  | some y => exact ⟨fun e => absurd e (nI_nm1 (h y rfl)), fun e => by cases e⟩
set_option maxRecDepth 100000 in
set_option maxHeartbeats 2000000 in
theorem c_P_closeBlock (l : Launch) (z : Sg) (r : List va_E) {t : Nat → Int32} {n : Nat} (i : Nat) (k : List Fr) (hp : PT z t n) (hi : i < 64) (hs : PStk z k) : XMet l 2 q_P_closeBlock [.ref 0, .int (nI i)] (wP z r) (some (.int (oI (fClose (chr t n) z i k).1))) (wP (fClose (chr t n) z i k).2.1 r) := by
  refine xm_intro (by decide +kernel) (Nat.le_of_ble_eq_true rfl) ?_
  obtain ⟨hd, hd6, hR⟩ := hs
  cases k with
  | nil =>
    refine xw_go xcls ok_P_closeBlock 60 [] ?_
    refine And.intro (fun h1 => absurd hd h1) (fun h1 => ?_)
    exact And.intro trivial ⟨rfl, rfl⟩
  | cons f k =>
    obtain ⟨h, o, f⟩ := f
    obtain ⟨h10, h11, h12, ⟨ok1, ok2, ok3⟩, hR⟩ := hR
    have hd : z 0 15 = nI (k.length + 1) := hd
    have hk : k.length < 6 := by have : k.length + 1 ≤ 6 := hd6; omega
    have ok3 : ∀ y, f = some y → y < 65 := ok3
    have h10 : z 10 k.length = nI h := h10
    have h11 : z 11 k.length = nI o := h11
    have h12 : z 12 k.length = oI f := h12
    have ok1 : h < o := ok1
    have ok2 : o < 65 := ok2
    generalize hres : fClose (chr t n) z i ((h, o, f) :: k) = res
    -- from the final close on
    have fin : ∀ b : Int32, b = (if chr t n h = 42 then 1 else 0) → ¬ (¬ chr t n h = 42 ∧ f = none ∧ chr t n (i + 1) = 123) → XW l 2 q_P_closeBlock (fun a b => a = some (.int (oI res.1)) ∧ b = wP res.2.1 r) 74 [(0, .ref 0), (1, .int (nI i)), (2, .int (nI k.length)), (3, .int b)] [] (wP z r) := by
      intro b hb hn
      have hres : (some (i + 1), fLk (chr t n) o h (o - 1 - h) (clZ (us (us z 0 15 (nI k.length)) 9 i (nI (if chr t n h = 42 then h + 1 else i + 1))) i f) (o + 1) (clF i f), k) = res := by rw [← hres]; simp only [fClose]; rw [if_neg hn]
      subst hres
      have lst : ∀ (z' : Sg) (x : Int32), x = nI (clF i f) → PT z' t n → z' 10 k.length = nI h → z' 11 k.length = nI o → z' = (clZ (us (us z 0 15 (nI k.length)) 9 i (nI (if chr t n h = 42 then h + 1 else i + 1))) i f) → XW l 2 q_P_closeBlock (fun a b => a = some (.int (oI (some (i + 1)))) ∧ b = wP (fLk (chr t n) o h (o - 1 - h) (clZ (us (us z 0 15 (nI k.length)) 9 i (nI (if chr t n h = 42 then h + 1 else i + 1))) i f) (o + 1) (clF i f)) r) 149 [(0, .ref 0), (2, .int (nI k.length)), (4, .int (nI (i + 1))), (5, .int x)] [] (wP z' r) := by
        intro z' x hx hp' g10 g11 hz'
        subst hx
        rw [← hz']
        refine xw_go xcls ok_P_closeBlock 60 [] ?_
        refine And.intro (in_nI (by omega) (by omega)) ?_
        rw [cl_nI (by omega), g10]
        refine And.intro (in_nI (by omega) (by omega)) ?_
        rw [cl_nI (by omega), g11]
        refine ⟨1, _, _, by decide, c_P_linkAtoms l z' r h o (clF i f) hp' ok1 ok2 (nI_p1 h), ?_⟩
        exact And.intro trivial ⟨rfl, rfl⟩
      have mid : ∀ e : Int32, e = nI (if chr t n h = 42 then h + 1 else i + 1) → XW l 2 q_P_closeBlock (fun a b => a = some (.int (oI (some (i + 1)))) ∧ b = wP (fLk (chr t n) o h (o - 1 - h) (clZ (us (us z 0 15 (nI k.length)) 9 i (nI (if chr t n h = 42 then h + 1 else i + 1))) i f) (o + 1) (clF i f)) r) 115 [(0, .ref 0), (2, .int (nI k.length)), (4, .int (nI (i + 1))), (5, .int (nI (i + 1)))] [.int e, .int (nI i), .ref 9] (wP (us z 0 15 (nI k.length)) r) := by
        intro e he
        refine xw_go xcls ok_P_closeBlock 60 [(149, [0, 2, 4, 5])] ?_
        refine And.intro (in_nI (by omega) (by omega)) ?_
        rw [cl_nI (by omega), he]
        refine And.intro (in_nI (by omega) (by omega)) ?_
        rw [cl_nI (by omega)]
        refine And.intro (fun q1 => ?_) (fun q1 => ?_)
        · have hf : f = none := (oI_m1 (fun y hy => by have := ok3 y hy; omega)).mp (h12.symm.trans q1)
          subst hf
          exact lst (us (us z 0 15 (nI k.length)) 9 i (nI (if chr t n h = 42 then h + 1 else i + 1))) _ rfl hp h10 h11 rfl
        · cases f with
          | none => exact absurd h12 q1
          | some y =>
            have hy := ok3 y rfl
            refine And.intro (in_nI (by omega) (by omega)) ?_
            rw [cl_nI (by omega)]
            refine And.intro (by rw [show us z 0 15 (nI k.length) 12 k.length = nI y from h12]; exact in_nI (by omega) (by omega)) ?_
            rw [show us z 0 15 (nI k.length) 12 k.length = nI y from h12, cl_nI (by omega)]
            refine And.intro (in_nI (by omega) (by omega)) ?_
            rw [cl_nI (by omega)]
            exact lst (us (us (us z 0 15 (nI k.length)) 9 i (nI (if chr t n h = 42 then h + 1 else i + 1))) 9 y (nI (i + 1))) _ (by show z 12 k.length + 2 = nI (y + 2); rw [h12]; exact nI_p2 y) hp h10 h11 rfl
      refine xw_go xcls ok_P_closeBlock 60 [(115, [0, 2, 4, 5])] ?_
      refine And.intro trivial ?_
      rw [hd, nI_p]
      refine And.intro (fun q1 => ?_) (fun q1 => ?_)
      · have hl : ¬ chr t n h = 42 := fun e => by rw [hb, if_pos e] at q1; cases q1
        rw [nI_p1]
        exact mid _ (by rw [if_neg hl])
      · have hl : chr t n h = 42 := Classical.byContradiction fun e => q1 (by rw [hb, if_neg e])
        refine And.intro (in_nI (by omega) (by omega)) ?_
        rw [cl_nI (by omega), nI_p1]
        exact mid _ (by rw [if_pos hl]; show z 10 k.length + 1 = _; rw [h10, nI_p1])
    have two : ∀ b : Int32, b = (if chr t n h = 42 then 1 else 0) → XW l 2 q_P_closeBlock (fun a b => a = some (.int (oI res.1)) ∧ b = wP res.2.1 r) 36 [(0, .ref 0), (1, .int (nI i)), (2, .int (nI k.length))] [.int b] (wP z r) := by
      intro b hb
      refine xw_go xcls ok_P_closeBlock 60 [(74, [0, 1, 2, 3])] ?_
      refine And.intro (fun q1 => ?_) (fun q1 => ?_)
      · exact fin b hb (fun q => q1 (by rw [hb, if_neg q.1]))
      · have hl : ¬ chr t n h = 42 := fun e => by rw [hb, if_pos e] at q1; cases q1
        refine And.intro (in_nI (by omega) (by omega)) ?_
        rw [cl_nI (by omega), h12]
        refine And.intro (fun q2 => ?_) (fun q2 => ?_)
        · exact fin b hb (fun q => q2 (by rw [q.2.1]; rfl))
        · have hf : f = none := (oI_m1 (fun y hy => by have := ok3 y hy; omega)).mp q2
          refine ⟨0, _, _, by decide, c_P_charAt l z r (i + 1) hp (by omega) (nI_p1 i), ?_⟩
          refine And.intro (fun q3 => ?_) (fun q3 => ?_)
          · exact fin b hb (fun q => q3 q.2.2)
          · refine And.intro (in_nI (by omega) (by omega)) ?_
            rw [cl_nI (by omega)]
            have hres : (some (i + 2), us z 12 k.length (nI i), (h, o, some i) :: k) = res := by rw [← hres]; simp only [fClose]; rw [if_pos ⟨hl, hf, q3⟩]
            subst hres
            exact And.intro trivial ⟨by simp [oI, nI_p2], rfl⟩
    refine xw_go xcls ok_P_closeBlock 60 [(36, [0, 1, 2])] ?_
    refine And.intro (fun q1 => ?_) (fun q1 => absurd (hd.symm.trans q1) (by rw [show (0 : Int32) = nI 0 from rfl, nI_eq' (by omega) (by omega)]; omega))
    refine And.intro (by rw [hd, nI_p]; exact in_nI (by omega) (by omega)) ?_
    rw [hd, nI_p, cl_nI (by omega), h10]
    refine ⟨0, _, _, by decide, c_P_charAt l z r h hp (by omega), ?_⟩
    refine And.intro (fun q2 => ?_) (fun q2 => ?_)
    · exact two 0 (by rw [if_neg q2])
    · exact two 1 (by rw [if_pos q2])
/-- out of blocks -/
def fOut (c : Nat → Int32) (ex : Nat → Nat) : Nat → Nat → Nat
  | 0, p => p
  | k + 1, p => if c p = 125 then fOut c ex k (ex p) else p
set_option maxRecDepth 100000 in
set_option maxHeartbeats 1000000 in
theorem lp_P_outOfBlocks (l : Launch) (z : Sg) (r : List va_E) {t : Nat → Int32} {n : Nat} (ex : Nat → Nat) (hp : PT z t n) (hx : ∀ p, chr t n p = 125 → z 9 p = nI (ex p) ∧ ex p < 65) : ∀ (m p : Nat), m ≤ 6 → p < 900 →
    XW l 1 q_P_outOfBlocks (fun a b => a = some (.int (nI (fOut (chr t n) ex m p))) ∧ b = wP z r) 4 [(0, .ref 0), (2, .int (nI p)), (3, .int (nI (6 - m)))] [] (wP z r)
  | 0, p, hm, hb => by
    refine xw_go xcls ok_P_outOfBlocks 60 [] ?_
    refine And.intro (fun h => ?_) (fun h => absurd (by decide) h)
    exact And.intro trivial ⟨rfl, rfl⟩
  | m + 1, p, hm, hb => by
    have hn := hp.2.1
    refine xw_go xcls ok_P_outOfBlocks 60 [(4, [0, 2, 3])] ?_
    refine And.intro (fun h => ?_) (fun h => ?_)
    · exact absurd h (by rw [show (6 : Int32) = nI 6 from rfl, nI_le' (by omega) (by omega)]; omega)
    · refine ⟨0, _, _, by decide, c_P_charAt l z r p hp (by omega), ?_⟩
      refine And.intro (fun h2 => ?_) (fun h2 => ?_)
      · exact And.intro trivial ⟨by simp [fOut, h2], rfl⟩
      · have hl := chr_lt h2 (by decide)
        obtain ⟨e1, e2⟩ := hx p h2
        refine And.intro (in_nI (by omega) (by omega)) ?_
        rw [cl_nI (by omega), e1]
        have ih := lp_P_outOfBlocks l z r ex hp hx m (ex p) (by omega) (by omega)
        have e : fOut (chr t n) ex (m + 1) p = fOut (chr t n) ex m (ex p) := by simp [fOut, h2]
        rw [e]
        rw [show nI (6 - m) = nI (6 - (m + 1)) + 1 by rw [nI_p1]; congr 1; omega] at ih
        exact ih
set_option maxRecDepth 100000 in
set_option maxHeartbeats 1000000 in
theorem c_P_outOfBlocks (l : Launch) (z : Sg) (r : List va_E) {t : Nat → Int32} {n : Nat} (ex : Nat → Nat) (p : Nat) (hp : PT z t n) (hx : ∀ p, chr t n p = 125 → z 9 p = nI (ex p) ∧ ex p < 65) (hb : p < 900) {x : Int32} (he : x = nI p := by rfl) : XMet l 1 q_P_outOfBlocks [.ref 0, .int x] (wP z r) (some (.int (nI (fOut (chr t n) ex 6 p)))) (wP z r) := by
  subst he
  refine xm_intro (by decide +kernel) (Nat.le_of_ble_eq_true rfl) ?_
  refine xw_go xcls ok_P_outOfBlocks 60 [(4, [0, 2, 3])] ?_
  exact lp_P_outOfBlocks l z r ex hp hx 6 p (by omega) hb
/-- all ways led out of blocks, up to the place k -/
def fLd (c : Nat → Int32) (ex wy ow : Nat → Nat) (z : Sg) (k : Nat) : Sg := uc (uc z 7 (fun p => if p < k ∧ ¬ z 2 p = 0 then nI (fOut c ex 6 (wy p)) else z 7 p)) 8 (fun p => if p < k ∧ z 2 p = 5 then nI (fOut c ex 6 (ow p)) else z 8 p)
theorem upd_if {f : Nat → Int32} {k : Nat} {x : Int32} : upd f k x = fun j => if j = k then x else f j := rfl
theorem fLd_w {c : Nat → Int32} {ex wy ow : Nat → Nat} {z : Sg} {k : Nat} (h : ¬ z 2 k = 0) : uc (uc z 7 (fun p => if p < k + 1 ∧ ¬ z 2 p = 0 then nI (fOut c ex 6 (wy p)) else z 7 p)) 8 (fun p => if p < k ∧ z 2 p = 5 then nI (fOut c ex 6 (ow p)) else z 8 p) = us (fLd c ex wy ow z k) 7 k (nI (fOut c ex 6 (wy k))) := by
  funext a p
  by_cases h7 : a = 7
  · subst h7
    by_cases hp : p = k
    · subst hp; simp [us, uc, upd_if, h, fLd]
    · simp only [us, uc, fLd, upd_if, if_neg hp, if_true, if_neg (show ¬ 7 = 8 by decide)]
      have : p < k + 1 ↔ p < k := by omega
      simp only [this]
  · simp [us, uc, fLd, h7]
theorem fLd_o {c : Nat → Int32} {ex wy ow : Nat → Nat} {z : Sg} {k : Nat} (h : z 2 k = 5) : fLd c ex wy ow z (k + 1) = us (us (fLd c ex wy ow z k) 7 k (nI (fOut c ex 6 (wy k)))) 8 k (nI (fOut c ex 6 (ow k))) := by
  have h0 : ¬ z 2 k = 0 := by rw [h]; decide
  rw [← fLd_w h0]
  funext a p
  by_cases h8 : a = 8
  · subst h8
    by_cases hp : p = k
    · subst hp; simp [us, uc, upd_if, h, fLd]
    · simp only [us, uc, fLd, upd_if, if_neg hp, if_true]
      have : p < k + 1 ↔ p < k := by omega
      simp only [this]
  · simp [us, uc, fLd, h8]
theorem fLd_n {c : Nat → Int32} {ex wy ow : Nat → Nat} {z : Sg} {k : Nat} (h : z 2 k = 0) : fLd c ex wy ow z (k + 1) = fLd c ex wy ow z k := by
  have e1 : (fun p => if p < k + 1 ∧ ¬ z 2 p = 0 then nI (fOut c ex 6 (wy p)) else z 7 p) = (fun p => if p < k ∧ ¬ z 2 p = 0 then nI (fOut c ex 6 (wy p)) else z 7 p) := by
    funext p
    by_cases hp : p = k
    · subst hp; simp [h]
    · have : p < k + 1 ↔ p < k := by omega
      simp only [this]
  have e2 : (fun p => if p < k + 1 ∧ z 2 p = 5 then nI (fOut c ex 6 (ow p)) else z 8 p) = (fun p => if p < k ∧ z 2 p = 5 then nI (fOut c ex 6 (ow p)) else z 8 p) := by
    funext p
    by_cases hp : p = k
    · subst hp; simp [h]
    · have : p < k + 1 ↔ p < k := by omega
      simp only [this]
  unfold fLd; rw [e1, e2]
theorem fLd_m {c : Nat → Int32} {ex wy ow : Nat → Nat} {z : Sg} {k : Nat} (h : ¬ z 2 k = 0) (h5 : ¬ z 2 k = 5) : fLd c ex wy ow z (k + 1) = us (fLd c ex wy ow z k) 7 k (nI (fOut c ex 6 (wy k))) := by
  have e2 : (fun p => if p < k + 1 ∧ z 2 p = 5 then nI (fOut c ex 6 (ow p)) else z 8 p) = (fun p => if p < k ∧ z 2 p = 5 then nI (fOut c ex 6 (ow p)) else z 8 p) := by
    funext p
    by_cases hp : p = k
    · subst hp; simp [h5]
    · have : p < k + 1 ↔ p < k := by omega
      simp only [this]
  rw [← fLd_w h]; unfold fLd; rw [e2]
set_option maxRecDepth 100000 in
set_option maxHeartbeats 1000000 in
theorem lp_P_lead (l : Launch) (z : Sg) (r : List va_E) {t : Nat → Int32} {n : Nat} (ex wy ow : Nat → Nat) (hp : PT z t n) (hx : ∀ p, chr t n p = 125 → z 9 p = nI (ex p) ∧ ex p < 65) (hw : ∀ p, p < n → ¬ z 2 p = 0 → z 7 p = nI (wy p) ∧ wy p < 900) (ho : ∀ p, p < n → z 2 p = 5 → z 8 p = nI (ow p) ∧ ow p < 900) : ∀ (m k : Nat), k + m = n →
    XW l 2 q_P_leadWaysOutOfBlocks (fun a b => a = none ∧ b = wP (fLd (chr t n) ex wy ow z n) r) 2 [(0, .ref 0), (1, .int (nI k))] [] (wP (fLd (chr t n) ex wy ow z k) r)
  | 0, k, hk => by
    have hn := hp.2.1
    have hk : k = n := hk
    subst hk
    refine xw_go xcls ok_P_leadWaysOutOfBlocks 60 [] ?_
    refine And.intro (fun h => ?_) (fun h => absurd (by show z 0 1 ≤ nI k; rw [hp.1]; exact (nI_le' (by omega) (by omega)).mpr (Nat.le_refl _)) h)
    exact And.intro rfl ⟨rfl, rfl⟩
  | m + 1, k, hk => by
    have hn := hp.2.1
    have hpk : PT (fLd (chr t n) ex wy ow z k) t n := hp
    have ih := lp_P_lead l z r ex wy ow hp hx hw ho m (k + 1) (by omega)
    rw [← nI_p1 k] at ih
    refine xw_go xcls ok_P_leadWaysOutOfBlocks 80 [(2, [0, 1])] ?_
    refine And.intro (fun h => ?_) (fun h => ?_)
    · have h : z 0 1 ≤ nI k := h
      rw [hp.1, nI_le' (by omega) (by omega)] at h
      omega
    · refine And.intro (in_nI (by omega) (by omega)) ?_
      rw [cl_nI (by omega)]
      have r7 : fLd (chr t n) ex wy ow z k 7 k = z 7 k := by simp [fLd, uc]
      have r8 : fLd (chr t n) ex wy ow z k 8 k = z 8 k := by simp [fLd, uc]
      refine And.intro (fun h2 => ?_) (fun h2 => ?_)
      · have h2 : z 2 k = 0 := h2
        refine And.intro (in_nI (by omega) (by omega)) ?_
        rw [cl_nI (by omega)]
        refine And.intro (fun h3 => ?_) (fun h3 => ?_)
        · rw [fLd_n h2] at ih
          exact ih
        · have h3 : z 2 k = 5 := h3
          rw [h2] at h3; cases h3
      · have h2 : ¬ z 2 k = 0 := h2
        obtain ⟨e1, e2⟩ := hw k (by omega) h2
        refine And.intro (in_nI (by omega) (by omega)) ?_
        rw [cl_nI (by omega), r7, e1]
        refine ⟨1, _, _, by decide, c_P_outOfBlocks l (fLd (chr t n) ex wy ow z k) r ex (wy k) hpk hx e2, ?_⟩
        refine And.intro (in_nI (by omega) (by omega)) ?_
        rw [cl_nI (by omega)]
        refine And.intro (in_nI (by omega) (by omega)) ?_
        rw [cl_nI (by omega)]
        refine And.intro (fun h3 => ?_) (fun h3 => ?_)
        · have h3 : ¬ z 2 k = 5 := h3
          rw [fLd_m h2 h3] at ih
          exact ih
        · have h3 : z 2 k = 5 := h3
          obtain ⟨e3, e4⟩ := ho k (by omega) h3
          refine And.intro (in_nI (by omega) (by omega)) ?_
          rw [cl_nI (by omega), r8, e3]
          refine ⟨1, _, _, by decide, c_P_outOfBlocks l (us (fLd (chr t n) ex wy ow z k) 7 k (nI (fOut (chr t n) ex 6 (wy k)))) r ex (ow k) hpk hx e4, ?_⟩
          refine And.intro (in_nI (by omega) (by omega)) ?_
          rw [cl_nI (by omega)]
          rw [fLd_o h3] at ih
          exact ih
theorem fLd_0 {c : Nat → Int32} {ex wy ow : Nat → Nat} {z : Sg} : fLd c ex wy ow z 0 = z := by
  funext a p
  by_cases h8 : a = 8
  · subst h8; simp [fLd, uc]
  · by_cases h7 : a = 7
    · subst h7; simp [fLd, uc]
    · simp [fLd, uc, h7, h8]
set_option maxRecDepth 100000 in
set_option maxHeartbeats 1000000 in
theorem c_P_lead (l : Launch) (z : Sg) (r : List va_E) {t : Nat → Int32} {n : Nat} (ex wy ow : Nat → Nat) (hp : PT z t n) (hx : ∀ p, chr t n p = 125 → z 9 p = nI (ex p) ∧ ex p < 65) (hw : ∀ p, p < n → ¬ z 2 p = 0 → z 7 p = nI (wy p) ∧ wy p < 900) (ho : ∀ p, p < n → z 2 p = 5 → z 8 p = nI (ow p) ∧ ow p < 900) : XMet l 2 q_P_leadWaysOutOfBlocks [.ref 0] (wP z r) none (wP (fLd (chr t n) ex wy ow z n) r) := by
  refine xm_intro (by decide +kernel) (Nat.le_of_ble_eq_true rfl) ?_
  refine xw_go xcls ok_P_leadWaysOutOfBlocks 60 [(2, [0, 1])] ?_
  have h := lp_P_lead l z r ex wy ow hp hx hw ho n 0 (by omega)
  rw [fLd_0] at h
  exact h
