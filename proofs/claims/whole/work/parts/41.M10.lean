/-! The reference: runs -/
def sR (y : Sg) (m : MSt) (vs : Int32) : Sg := uc (uc (uc (us (us y 0 21 (nI m.2.2.2.1)) 0 24 vs) 13 (fun v => oI (m.1 v))) 14 (fun o => nI (m.2.1 o))) 15 (fun o => oI (m.2.2.1 o))
def vR (y : Sg) (m : MSt) (vs : Int32) : List va_E := vM (sR y m vs) m.2.2.2.2
theorem vR_i {y y' : Sg} {m : MSt} {vs : Int32} (hc : ∀ a, a < 13 → a ≠ 0 → y' a = y a) (hf : ∀ j, j ≠ 21 → j ≠ 24 → y' 0 j = y 0 j) (h21 : y' 0 21 = nI m.2.2.2.1) (h24 : y' 0 24 = vs) (h13 : y' 13 = fun v => oI (m.1 v)) (h14 : y' 14 = fun o => nI (m.2.1 o)) (h15 : y' 15 = fun o => oI (m.2.2.1 o)) : vM y' m.2.2.2.2 = vR y m vs := by
  unfold vM
  rw [h21, h24, h13, h14, h15, hc 1 (by decide) (by decide), hc 2 (by decide) (by decide), hc 3 (by decide) (by decide), hc 4 (by decide) (by decide), hc 5 (by decide) (by decide), hc 6 (by decide) (by decide), hc 7 (by decide) (by decide), hc 8 (by decide) (by decide), hc 9 (by decide) (by decide), hc 10 (by decide) (by decide), hc 11 (by decide) (by decide), hc 12 (by decide) (by decide)]
  rw [hf 1 (by decide) (by decide), hf 8 (by decide) (by decide), hf 9 (by decide) (by decide), hf 15 (by decide) (by decide), hf 16 (by decide) (by decide), hf 17 (by decide) (by decide), hf 18 (by decide) (by decide), hf 19 (by decide) (by decide), hf 26 (by decide) (by decide)]
  rfl
theorem tkM (n : Nat) (b : Int64) (hn : n = 1 ∨ n = 2) : b.toInt32 &&& (((1 : Int32) <<< (nI n &&& 31)) - 1) = nI (tkN n b) := by
  obtain ⟨k, hk, rfl⟩ := wb_of b
  rw [lN_i]
  unfold tkN
  rw [wb_tn hk]
  have ht : (nI k).toBitVec.toNat = k % 2 ^ 32 := by
    show (BitVec.ofNat 32 k).toNat = _
    rw [BitVec.toNat_ofNat]
  rcases hn with rfl | rfl
  · rw [show ((1 : Int32) <<< (nI 1 &&& 31)) - 1 = 1 by decide, pk_and (nI k) 1 (by decide), ht, Nat.mod_mod_of_dvd _ (by decide)]
  · rw [show ((1 : Int32) <<< (nI 2 &&& 31)) - 1 = 3 by decide, pk_and (nI k) 2 (by decide), ht, Nat.mod_mod_of_dvd _ (by decide)]
section
variable (l : Launch) (y : Sg) (vs : Int32) {t : Nat → Int32} {n : Nat}
theorem w_rLoc {m : MSt} {v : Nat} {x : Option Nat} : vM (us (sR y m vs) 13 v (oI x)) m.2.2.2.2 = vR y (mLoc v x m) vs := vR_i (y := y) (m := mLoc v x m) (fun a h h0 => by simp [us, uc, sR, h0, show a ≠ 13 by omega, show a ≠ 14 by omega, show a ≠ 15 by omega]) (fun j h1 h2 => by simp [us, uc, upd, sR, h1, h2]) rfl rfl (fu_oI _ _ _) rfl rfl
theorem w_rG {m : MSt} {o x : Nat} : vM (us (sR y m vs) 14 o (nI x)) m.2.2.2.2 = vR y (mG o x m) vs := vR_i (y := y) (m := mG o x m) (fun a h h0 => by simp [us, uc, sR, h0, show a ≠ 13 by omega, show a ≠ 14 by omega, show a ≠ 15 by omega]) (fun j h1 h2 => by simp [us, uc, upd, sR, h1, h2]) rfl rfl rfl (fu_nI _ _ _) rfl
theorem w_rH {m : MSt} {o : Nat} {x : Option Nat} : vM (us (sR y m vs) 15 o (oI x)) m.2.2.2.2 = vR y (mH o x m) vs := vR_i (y := y) (m := mH o x m) (fun a h h0 => by simp [us, uc, sR, h0, show a ≠ 13 by omega, show a ≠ 14 by omega, show a ≠ 15 by omega]) (fun j h1 h2 => by simp [us, uc, upd, sR, h1, h2]) rfl rfl rfl rfl (fu_oI _ _ _)
set_option maxRecDepth 100000 in
set_option maxHeartbeats 1000000 in
theorem c_M_take (m : MSt) (k : Nat) (hk : k = 1 ∨ k = 2) {x : Int32} (hx : x = nI k := by rfl) : XMet l 0 q_M_take [.ref 0, .int x] (vR y m vs) (some (.int (nI (tkN k m.2.2.2.2)))) (vR y (mTk k m) vs) := by
  subst hx
  refine xm_intro (by decide +kernel) (Nat.le_of_ble_eq_true rfl) ?_
  refine xw_go xcls ok_M_take 40 [] ?_
  refine And.intro trivial (And.intro trivial ⟨?_, rfl⟩)
  exact congrArg (fun x => some (Value.int x)) (tkM k m.2.2.2.2 hk)
set_option maxRecDepth 100000 in
set_option maxHeartbeats 1000000 in
theorem c_M_create (m : MSt) (hm : m.2.2.2.1 ≤ 8) : XMet l 0 q_M_create [.ref 0] (vR y m vs) (some (.int (nI (mMk m).1))) (vR y (mMk m).2 vs) := by
  obtain ⟨ho, g, h, k, b⟩ := m
  have hm : k ≤ 8 := hm
  refine xm_intro (by decide +kernel) (Nat.le_of_ble_eq_true rfl) ?_
  refine xw_go xcls ok_M_create 40 [] ?_
  refine And.intro (fun q => ?_) (fun q => ?_)
  · have q : ¬ nI k = 8 := q
    rw [show (8 : Int32) = nI 8 from rfl, nI_eq' (by omega) (by omega)] at q
    have hk : k < 8 := by omega
    rw [show mMk (ho, g, h, k, b) = (k, (ho, fu g k k, fu h k none, k + 1, b)) by simp [mMk, hk]]
    have e3 : sR y (ho, g, h, k, b) vs 0 21 = nI k := rfl
    refine And.intro (by rw [e3]; exact in_nI (by omega) (by omega)) ?_
    rw [e3, cl_nI (by omega)]
    refine And.intro (by exact in_nI (by omega) (by omega)) ?_
    rw [show (sR y (ho, g, h, k, b) vs 0 21).toNatClampNeg = k from cl_nI (by omega)]
    refine And.intro trivial ?_
    refine And.intro trivial ⟨?_, ?_⟩
    · show some (Value.int (nI k + 1 - 1)) = _
      rw [nI_p1, nI_p]
    · exact vR_i (y := y) (m := (ho, fu g k k, fu h k none, k + 1, b)) (y' := us (us (us (sR y (ho, g, h, k, b) vs) 14 k (nI k)) 15 k (-1)) 0 21 (nI k + 1)) (fun a h h0 => by simp [us, uc, sR, h0, show a ≠ 13 by omega, show a ≠ 14 by omega, show a ≠ 15 by omega]) (fun j h1 h2 => by simp [us, uc, upd, sR, h1, h2]) (nI_p1 k) rfl rfl (fu_nI g k k) (fu_oI h k none)
  · have q : nI k = 8 := q
    rw [show (8 : Int32) = nI 8 from rfl, nI_eq' (by omega) (by omega)] at q
    rw [show mMk (ho, g, h, k, b) = (7, (ho, g, h, k, b)) by simp [mMk, q]]
    exact And.intro trivial ⟨rfl, rfl⟩
/-- what a value is found to be: none if nothing was used -/
def mFd (c : Nat → Int32) (i : Nat) (m : MSt) : Option (Option Nat) × MSt :=
  if c i = 78 then (some (some (mMk m).1), (mMk m).2)
  else if c i = 64 then (some (mAsk m), mTk 2 m)
  else if ¬ lcP (c i) then (some none, m)
  else if ¬ fdP c (i + 1) then (some (m.1 (c i - 97).toNatClampNeg), m)
  else match m.1 (c i - 97).toNatClampNeg with
    | none => (none, m)
    | some o => (some (if c (i + 2) = 103 then some (m.2.1 o) else m.2.2.1 o), m)
def rI : Option (Option Nat) → Int32
  | none => -2
  | some o => oI o
theorem lc_in {x : Int32} (h : lcP x) : vp_in (x - 97) 5 := by
  obtain ⟨h1, h2⟩ := h
  obtain ⟨j, hj, e⟩ := nI_of (x := x) (Int32.not_lt.mpr (Int32.le_trans (by decide) h1))
  rw [e, show (97 : Int32) = nI 97 from rfl, nI_leI (by omega) (by omega)] at h1
  rw [e, show (101 : Int32) = nI 101 from rfl, nI_leI (by omega) (by omega)] at h2
  rw [e, show (97 : Int32) = nI 97 from rfl, pk_sub h1]
  exact in_nI (by omega) (by omega)
theorem oI_ge {o : Option Nat} (h : ∀ q, o = some q → q < 8) : 0 ≤ oI o ↔ ∃ q, o = some q := by
  cases o with
  | none => exact ⟨fun c => absurd c (by decide), fun ⟨q, c⟩ => by cases c⟩
  | some q => exact ⟨fun _ => ⟨q, rfl⟩, fun _ => nI_g0 (by have := h q rfl; omega)⟩
set_option maxRecDepth 100000 in
set_option maxHeartbeats 2000000 in
theorem c_M_found (m : MSt) (hm : MInv m) (hp : MT y t n) (i : Nat) (hi : i < 800) {x : Int32} (hx : x = nI i := by rfl) : XMet l 2 q_M_found [.ref 0, .int x] (vR y m vs) (some (.int (rI (mFd (chr t n) i m).1))) (vR y (mFd (chr t n) i m).2 vs) := by
  subst hx
  obtain ⟨i1, i2, i3, i4, i5⟩ := id hm
  have hpR : ∀ m', MT (sR y m' vs) t n := fun _ => hp
  refine xm_intro (by decide +kernel) (Nat.le_of_ble_eq_true rfl) ?_
  refine xw_go xcls ok_M_found 60 [] ?_
  refine ⟨0, _, _, by decide, c_M_at l (sR y m vs) m.2.2.2.2 i (hpR m) (by omega), ?_⟩
  refine And.intro (fun h1 => ?_) (fun h1 => ?_)
  · refine And.intro (fun h2 => ?_) (fun h2 => ?_)
    · refine ⟨1, _, _, by decide, c_M_isLocal l (sR y m vs) m.2.2.2.2 i (hpR m) (by omega), ?_⟩
      by_cases h3 : lcP (chr t n i)
      · rw [show bI (lcP (chr t n i)) = 1 by rw [bI, if_pos h3]]
        refine And.intro (fun _ => ?_) (fun c => absurd c (by decide))
        refine And.intro (lc_in h3) ?_
        generalize hv : (chr t n i - 97).toNatClampNeg = v
        refine ⟨1, _, _, by decide, c_M_isField l (sR y m vs) m.2.2.2.2 (i + 1) (hpR m) (by omega) (nI_p1 i), ?_⟩
        by_cases h4 : fdP (chr t n) (i + 1)
        · rw [show bI (fdP (chr t n) (i + 1)) = 1 by rw [bI, if_pos h4]]
          refine And.intro (fun _ => ?_) (fun c => absurd c (by decide))
          have e13 : sR y m vs 13 v = oI (m.1 v) := rfl
          cases ho : m.1 v with
          | none =>
            refine And.intro (fun c => absurd c (by rw [e13, ho]; decide)) (fun _ => ?_)
            rw [show mFd (chr t n) i m = (none, m) by simp only [mFd]; rw [if_neg h1, if_neg h2, if_neg (fun c => c h3), if_neg (fun c => c h4), hv, ho]]
            exact And.intro trivial ⟨rfl, rfl⟩
          | some o =>
            have ho8 := i1 v o ho
            have e14 : sR y m vs 13 v = nI o := by rw [e13, ho]; rfl
            refine And.intro (fun _ => ?_) (fun c => absurd (by rw [e14]; exact nI_g0 (by omega)) c)
            rw [show mFd (chr t n) i m = (some (if chr t n (i + 2) = 103 then some (m.2.1 o) else m.2.2.1 o), m) by simp only [mFd]; rw [if_neg h1, if_neg h2, if_neg (fun c => c h3), if_neg (fun c => c h4), hv, ho]]
            refine ⟨0, _, _, by decide, c_M_at l (sR y m vs) m.2.2.2.2 (i + 2) (hpR m) (by omega) (nI_p2 i), ?_⟩
            refine And.intro (fun h5 => ?_) (fun h5 => ?_)
            · refine And.intro (by show vp_in (sR y m vs 13 v) 8; rw [e14]; exact in_nI (by omega) (by omega)) ?_
              rw [e14, cl_nI (by omega)]
              exact And.intro trivial ⟨by rw [if_neg h5]; rfl, rfl⟩
            · refine And.intro (by show vp_in (sR y m vs 13 v) 8; rw [e14]; exact in_nI (by omega) (by omega)) ?_
              rw [e14, cl_nI (by omega)]
              exact And.intro trivial ⟨by rw [if_pos h5]; rfl, rfl⟩
        · rw [show bI (fdP (chr t n) (i + 1)) = 0 by rw [bI, if_neg h4]]
          refine And.intro (fun c => absurd rfl c) (fun _ => ?_)
          rw [show mFd (chr t n) i m = (some (m.1 v), m) by simp only [mFd]; rw [if_neg h1, if_neg h2, if_neg (fun c => c h3), if_pos h4, hv]]
          exact And.intro trivial ⟨rfl, rfl⟩
      · rw [show bI (lcP (chr t n i)) = 0 by rw [bI, if_neg h3]]
        refine And.intro (fun c => absurd rfl c) (fun _ => ?_)
        rw [show mFd (chr t n) i m = (some none, m) by simp only [mFd]; rw [if_neg h1, if_neg h2, if_pos h3]]
        exact And.intro trivial ⟨rfl, rfl⟩
    · rw [show mFd (chr t n) i m = (some (mAsk m), mTk 2 m) by simp only [mFd]; rw [if_neg h1, if_pos h2]]
      refine ⟨0, _, _, by decide, c_M_take l y vs m 2 (Or.inr rfl), ?_⟩
      have h4 := tkN_2 m.2.2.2.2
      by_cases h0 : tkN 2 m.2.2.2.2 = 0
      · rw [h0]
        refine And.intro (fun c => absurd c ?_) (fun _ => ?_)
        · show ¬ nI m.2.2.2.1 ≤ nI 0 - 1
          rw [show nI 0 - 1 = (-1 : Int32) by decide]
          intro c
          exact absurd (Int32.le_trans (nI_g0 (by omega)) c) (by decide)
        · exact And.intro trivial ⟨by simp [mAsk, h0, rI, oI]; decide, rfl⟩
      · have es : nI (tkN 2 m.2.2.2.2) - 1 = nI (tkN 2 m.2.2.2.2 - 1) := pk_sub (b := 1) (by omega)
        have ea : mAsk m = some (min (tkN 2 m.2.2.2.2 - 1) (m.2.2.2.1 - 1)) := by simp [mAsk, h0]
        refine And.intro (fun c => ?_) (fun c => ?_)
        · have c : nI m.2.2.2.1 ≤ nI (tkN 2 m.2.2.2.2) - 1 := c
          rw [es, nI_le' (by omega) (by omega)] at c
          refine And.intro trivial ⟨?_, rfl⟩
          show some (Value.int (nI m.2.2.2.1 - nI 1)) = _
          rw [pk_sub i4, ea, Nat.min_eq_right (by omega)]; rfl
        · have c : ¬ nI m.2.2.2.1 ≤ nI (tkN 2 m.2.2.2.2) - 1 := c
          rw [es, nI_le' (by omega) (by omega)] at c
          refine And.intro trivial ⟨?_, rfl⟩
          show some (Value.int (nI (tkN 2 m.2.2.2.2) - 1)) = _
          rw [es, ea, Nat.min_eq_left (by omega)]; rfl
  · rw [show mFd (chr t n) i m = (some (some (mMk m).1), (mMk m).2) by simp only [mFd]; rw [if_pos h1]]
    refine ⟨0, _, _, by decide, c_M_create l y vs m i5, ?_⟩
    exact And.intro trivial ⟨rfl, rfl⟩
end
