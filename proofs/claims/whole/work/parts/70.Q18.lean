/-! The pure part: a text on both sides -/
theorem PT_xLoop {t : Nat → Int32} {n : Nat} : ∀ (m : Nat) (o : Option Nat) (z : Sg) (k : List Fr), PT z t n → PT (xLoop (chr t n) n m o z k).2.1 t n
  | 0, o, z, k, h => h
  | m + 1, none, z, k, h => h
  | m + 1, some i, z, k, h => by
    by_cases hi : i < n
    · by_cases h5 : chr t n i = 125
      · simp only [xLoop, if_pos hi, if_pos h5]; exact PT_xLoop m _ _ _ (fClose_PT h)
      · simp only [xLoop, if_pos hi, if_neg h5]; exact PT_xLoop m _ _ _ (fStmt_PT h)
    · simp only [xLoop, if_neg hi]; exact h
def ZF (t : Nat → Int32) (n : Nat) (z : Sg) : Sg := (xPar t n z).2.1
def zz (t : Nat → Int32) (n : Nat) (z : Sg) : Sg := zPar t n z (exF (ZF t n z)) (wyF (ZF t n z)) (owF (ZF t n z))
def okX (t : Nat → Int32) (n : Nat) (z : Sg) : Prop := (xPar t n z).1 = some n ∧ (xPar t n z).2.2 = []
abbrev uu (t : Nat → Int32) (n : Nat) (z : Sg) : Nat → Nat := uF (chr t n) (ZF t n z)
abbrev vv (t : Nat → Int32) (n : Nat) (z : Sg) : Nat → Nat := vF (chr t n) (ZF t n z)
section Text
variable {t : Nat → Int32} {n : Nat} {z : Sg}
theorem PT_ZF (h : PT z t n) : PT (ZF t n z) t n := by
  refine PT_xLoop 64 (some 0) (z0 z) [] (PT_c h ?_ ?_)
  · unfold z0; rw [us_p (by decide), us_p (by decide), uc_n (by decide)]
  · unfold z0; rw [us_n (by decide), us_n (by decide), uc_n (by decide)]
theorem zz_ok (h : okX t n z) : zz t n z = zT (chr t n) n (ZF t n z) := by
  unfold zz zPar
  exact if_pos h
theorem zz_no (h : ¬ okX t n z) : zz t n z = us (ZF t n z) 0 2 0 := by
  unfold zz zPar
  exact if_neg h
theorem PT_zz (h : PT z t n) : PT (zz t n z) t n := by
  have hz := PT_ZF h
  by_cases hk : okX t n z
  · rw [zz_ok hk]
    refine PT_c hz ?_ ?_
    · rw [zT_s (by decide) (by decide), us_c (by decide), us_p (by decide)]
    · funext p; rw [zT_m (by decide) (by decide) (by decide) (by decide)]
  · rw [zz_no hk]
    refine PT_c hz ?_ ?_
    · rw [us_p (by decide)]
    · rw [us_n (by decide)]
theorem hpar (hn : n ≤ 64) : hPar t n z (exF (ZF t n z)) (wyF (ZF t n z)) (owF (ZF t n z)) := by
  intro h1 h2
  rcases par_lock t n hn z (fun _ _ => 0) with ⟨-, -, dp, I⟩ | ⟨h, -⟩
  · have hc := chr_0 t n
    refine ⟨fun p h => exit_ok I hn hc h, fun p hp h0 => ?_, fun p hp h5 => ?_⟩
    · obtain ⟨q, q1, q2, -⟩ := way_ok I hn hc hp h0
      unfold wyF ZF
      rw [q1, cl_nI (by omega)]
      exact ⟨rfl, q2⟩
    · obtain ⟨T, F, l1, l2, -, h4, -⟩ := atm_ways I hn hc hp h5
      have hL : Land (chr t n) n (xPar t n z).2.1 (if chr t n p = 126 then T else F) := by split; exact l1; exact l2
      have := hL.1
      unfold owF ZF
      rw [h4, cl_nI (by omega)]
      exact ⟨rfl, by omega⟩
  · exact absurd ⟨h1, h2⟩ h
theorem good (hn : n ≤ 64) (h : okX t n z) (y : Sg) : mOk t n y ∧ Tab (chr t n) n (zz t n z) (yP t n y) (uu t n z) (vv t n z) ∧ MPr (yP t n y) (chr t n) n (uu t n z) (uu t n z) (vv t n z) ∧ zz t n z 0 3 = yP t n y 0 8 ∧ ¬ zz t n z 0 2 = 0 := by
  rcases par_lock t n hn z y with ⟨-, hm, dp, I⟩ | ⟨q, -⟩
  · have hc := chr_0 t n
    rw [zz_ok h]
    refine ⟨hm, tab_ok I hn hc, mpr_ok I hn hc, ?_, ?_⟩
    · rw [zT_s (by decide) (by decide), us_c (by decide), us_p (by decide)]
      unfold yP
      rw [us_c (by decide)]
      exact I.2.2.1
    · rw [zT_s (by decide) (by decide), us_c (by decide), us_hit]; decide
  · exact absurd h q
theorem bad (hn : n ≤ 64) (h : ¬ okX t n z) (y : Sg) : ¬ mOk t n y ∧ zz t n z 0 2 = 0 := by
  rcases par_lock t n hn z y with ⟨q, -⟩ | ⟨-, hm⟩
  · exact absurd q h
  · exact ⟨hm, by rw [zz_no h, us_hit]⟩
/-- a place counts on both sides, or on neither -/
theorem cnt_lock (hn : n ≤ 64) (y : Sg) (p : Int32) : cntP (zz t n z) n p ↔ cntM t n y p := by
  unfold cntP cntM inT
  by_cases h : okX t n z
  · obtain ⟨g1, g2, -, -, g5⟩ := good hn h y
    constructor
    · rintro ⟨-, a, b, d⟩
      obtain ⟨j, hj, e⟩ := le_nI a b (by omega)
      refine ⟨⟨a, b⟩, g1, ?_⟩
      rw [e, cl_nI (by omega)] at d ⊢
      exact Classical.byContradiction fun w => d ((ct_0 (g2 j hj).1).mpr w)
    · rintro ⟨⟨a, b⟩, -, d⟩
      obtain ⟨j, hj, e⟩ := le_nI a b (by omega)
      refine ⟨g5, a, b, ?_⟩
      rw [e, cl_nI (by omega)] at d ⊢
      exact fun w => (ct_0 (g2 j hj).1).mp w d
  · obtain ⟨g1, g2⟩ := bad hn h y
    exact ⟨fun w => absurd g2 w.1, fun w => absurd w.2.1 g1⟩
end Text
/-- what a call of the reference may not touch -/
def YS (y y' : Sg) : Prop := y' 0 1 = y 0 1 ∧ y' 1 = y 1 ∧ y' 2 = y 2 ∧ y' 0 19 = y 0 19 ∧ y' 0 21 = y 0 21 ∧ y' 0 24 = y 0 24 ∧ y' 13 = y 13 ∧ y' 14 = y 14 ∧ y' 15 = y 15
section Keep
variable {t : Nat → Int32} {n : Nat} {y : Sg}
theorem ys_mPar : YS y (mPar t n y).2.1 := ⟨mPar_0 (by decide) (by decide), mPar_n (by decide) (by decide) (by decide) (by decide) (by decide) (by decide) (by decide), mPar_n (by decide) (by decide) (by decide) (by decide) (by decide) (by decide) (by decide), mPar_0 (by decide) (by decide), mPar_0 (by decide) (by decide), mPar_0 (by decide) (by decide), mPar_n (by decide) (by decide) (by decide) (by decide) (by decide) (by decide) (by decide), mPar_n (by decide) (by decide) (by decide) (by decide) (by decide) (by decide) (by decide), mPar_n (by decide) (by decide) (by decide) (by decide) (by decide) (by decide) (by decide)⟩
theorem ys_yP : YS y (yP t n y) := ⟨yP_0 (by decide) (by decide), yP_n (by decide) (by decide) (by decide) (by decide) (by decide) (by decide) (by decide), yP_n (by decide) (by decide) (by decide) (by decide) (by decide) (by decide) (by decide), yP_0 (by decide) (by decide), yP_0 (by decide) (by decide), yP_0 (by decide) (by decide), yP_n (by decide) (by decide) (by decide) (by decide) (by decide) (by decide) (by decide), yP_n (by decide) (by decide) (by decide) (by decide) (by decide) (by decide) (by decide), yP_n (by decide) (by decide) (by decide) (by decide) (by decide) (by decide) (by decide)⟩
theorem ys_sD {D : MD} {q : ML} : YS y (sD y D q) := ⟨rfl, rfl, rfl, rfl, rfl, rfl, rfl, rfl, rfl⟩
theorem YS.tr {a b d : Sg} (h : YS a b) (g : YS b d) : YS a d := by
  obtain ⟨h1, h2, h3, h4, h5, h6, h7, h8, h9⟩ := h
  obtain ⟨g1, g2, g3, g4, g5, g6, g7, g8, g9⟩ := g
  exact ⟨g1.trans h1, g2.trans h2, g3.trans h3, g4.trans h4, g5.trans h5, g6.trans h6, g7.trans h7, g8.trans h8, g9.trans h9⟩
theorem ys_rfl : YS y y := ⟨rfl, rfl, rfl, rfl, rfl, rfl, rfl, rfl, rfl⟩
theorem ys_yE {w u v : Nat → Nat} : YS y (yE t n w u v y) := ys_yP.tr ys_sD
theorem ys_yF {p : Int32} : YS y (yF t n y p) := by
  unfold yF
  split
  · exact ys_rfl
  · split
    · exact ys_mPar
    · exact ys_yP
end Keep
/-- what the two machines have in common -/
def JM (m : MSt) (sc : Int32) (y : Sg) (b : Int64) : Prop := MI0 m ∧ ∃ m' : MSt, RepM y m' (y 0 24) ∧ m'.2.2.2.2 = b ∧ (∀ v, 5 ≤ v → m.1 v = m'.1 v) ∧ m.2.1 = m'.2.1 ∧ m.2.2.1 = m'.2.2.1 ∧ m'.2.2.2.1 ≤ 8 ∧
  ((y 0 19 = 0 ∧ (∀ v, v < 5 → m.1 v = none) ∧ m.2.2.2.1 = 0 ∧ sc = -1) ∨ (¬ y 0 19 = 0 ∧ m.1 = m'.1 ∧ m.2.2.2.1 = m'.2.2.2.1 ∧ sc = y 0 24))
def JS (t : Nat → Int32) (n : Nat) (z : Sg) (s : CS) (m : MSt) (sc so ck : Int32) (y : Sg) (b : Int64) : Prop :=
  PT z t n ∧ MT y t n ∧ so = mSol (y 2) 5 ∧ (ck = 0 ∨ (ck = 1 ∧ (okX t n z → ∃ s', s = kn (zz t n z) (uu t n z) (vv t n z) so n s'))) ∧ JM m sc y b
def J (X Y : List va_E) : Prop := ∃ t n z s m sc e so ck y b, X = wA (zz t n z) s m sc e so ck ∧ Y = vM y b ∧ JS t n z s m sc so ck y b
section JKeep
variable {t : Nat → Int32} {n : Nat} {z : Sg} {s : CS} {m : MSt} {sc so ck e : Int32} {y y' : Sg} {b : Int64}
theorem JM.ys (h : JM m sc y b) (g : YS y y') : JM m sc y' b := by
  obtain ⟨g1, g2, g3, g4, g5, g6, g7, g8, g9⟩ := g
  obtain ⟨h1, m', ⟨r1, r2, r3, r4, r5⟩, h2⟩ := h
  refine ⟨h1, m', ⟨g5.trans r1, rfl, g7.trans r3, g8.trans r4, g9.trans r5⟩, ?_⟩
  rw [g4, g6]; exact h2
theorem JS.ys (h : JS t n z s m sc so ck y b) (g : YS y y') : JS t n z s m sc so ck y' b := by
  obtain ⟨h1, h2, h3, h4, h5⟩ := h
  exact ⟨h1, MT_c h2 g.1 g.2.1, by rw [g.2.2.1]; exact h3, h4, h5.ys g⟩
theorem JS.j (h : JS t n z s m sc so ck y b) : J (wA (zz t n z) s m sc e so ck) (vM y b) := ⟨t, n, z, s, m, sc, e, so, ck, y, b, rfl, rfl, h⟩
theorem JS.ck01 (h : JS t n z s m sc so ck y b) : ck = 0 ∨ ck = 1 := h.2.2.2.1.elim Or.inl (fun w => Or.inr w.1)
/-- the text checked: known on both sides -/
theorem JS.know (h : JS t n z s m sc so ck y b) (hk : okX t n z) : ∃ s', knC (zz t n z) (uu t n z) (vv t n z) so ck n s = kn (zz t n z) (uu t n z) (vv t n z) so n s' := by
  rcases h.2.2.2.1 with w | ⟨w, g⟩
  · exact ⟨s, by unfold knC; rw [if_pos w]⟩
  · obtain ⟨s', e⟩ := g hk
    exact ⟨s', by unfold knC; rw [w, if_neg (by decide)]; exact e⟩
theorem JS.set (h : JS t n z s m sc so ck y b) (hk : okX t n z) : JS t n z (knC (zz t n z) (uu t n z) (vv t n z) so ck n s) m sc so 1 y b := by
  have g := h.know hk
  obtain ⟨h1, h2, h3, h4, h5⟩ := h
  exact ⟨h1, h2, h3, Or.inr ⟨rfl, fun _ => g⟩, h5⟩
theorem JS.n64 (h : JS t n z s m sc so ck y b) : n ≤ 64 := h.1.2.1
theorem JS.rel (h : JS t n z s m sc so ck y b) (hk : okX t n z) : Rel (zz t n z) n (knC (zz t n z) (uu t n z) (vv t n z) so ck n s) (yS t n (uu t n z) (uu t n z) (vv t n z) y).1 := by
  obtain ⟨s', e⟩ := h.know hk
  have g := good h.n64 hk y
  rw [e]
  have so' : so = mSol (yP t n y 2) 5 := by rw [ys_yP.2.2.1]; exact h.2.2.1
  rw [so']
  exact std_lock g.2.1 h.n64 (role_0 h.n64 g.1) s' _
end JKeep
