/-! The pure part: every call, alike on both sides -/
section Ops
variable (l : Launch)
theorem isI_i (k : Int32) : isI (some (.int k)) := ⟨k, rfl⟩
theorem j_type (a : Int64) : JOp l J q_N_type q_M_type [.long a] isI := by
  rintro X Y ⟨t, n, z, s, m, sc, e, so, ck, y, b, rfl, rfl, h⟩
  have hp := PT_zz h.1
  have hn := h.n64
  rcases type_lock a t n h.1.2.2.2 with ⟨g1, g2, g3, g4, g5, g6⟩ | ⟨g1, g2⟩
  · have hp' : PT (sT (zz t n z) (fApp a 8 t n)) (fApp a 8 t n).1 (fApp a 8 t n).2 := by
      refine ⟨?_, g6, sT_1, g5⟩
      unfold sT; rw [us_hit]
    refine ⟨6, 7, _, _, _, ⟨by decide, by decide⟩, c_N_type l _ s m sc e so ck a hp g1 hp' _ _ _ (hpar g6), c_M_type l y b a h.2.1 _ g2 g3 g3, ?_, isI_i _⟩
    obtain ⟨h1, h2, h3, h4, h5⟩ := h
    refine JS.j (z := sT (zz t n z) (fApp a 8 t n)) ⟨hp', ⟨?_, g6, ?_⟩, h3, Or.inl rfl, ?_⟩
    · rw [g4]; unfold sT; rw [us_hit]
    · rw [g4]; exact sT_1
    · obtain ⟨k1, m', ⟨r1, r2, r3, r4, r5⟩, k2⟩ := h5
      exact ⟨k1, m', ⟨r1, rfl, r3, r4, r5⟩, k2⟩
  · exact ⟨6, 7, _, _, _, ⟨by decide, by decide⟩, c_N_typeN l _ s m sc e so ck a hp g1, c_M_typeN l y b a h.2.1 g2, h.j, isI_i _⟩
theorem j_wipe : JOp l J q_N_wipe q_M_wipe [] (fun r => r = none) := by
  rintro X Y ⟨t, n, z, s, m, sc, e, so, ck, y, b, rfl, rfl, h⟩
  have hp := PT_zz h.1
  have hp' : PT (us (zz t n z) 0 1 0) t 0 := ⟨us_hit, by decide, by rw [us_n (by decide)]; exact hp.2.2.1, hp.2.2.2⟩
  refine ⟨6, 7, _, _, _, ⟨by decide, by decide⟩, c_N_wipe l _ s m sc e so ck hp' _ _ _ (hpar (by decide)), c_M_wipe l y b, ?_, rfl⟩
  obtain ⟨h1, h2, h3, h4, h5⟩ := h
  refine JS.j (z := us (zz t n z) 0 1 0) ⟨hp', ⟨us_hit, by decide, h2.2.2⟩, h3, Or.inl rfl, ?_⟩
  obtain ⟨k1, m', ⟨r1, r2, r3, r4, r5⟩, k2⟩ := h5
  exact ⟨k1, m', ⟨r1, rfl, r3, r4, r5⟩, k2⟩
theorem j_length : JOp l J q_N_length q_M_length [] isI := by
  rintro X Y ⟨t, n, z, s, m, sc, e, so, ck, y, b, rfl, rfl, h⟩
  have c := c_M_length l y b
  rw [h.2.1.1, ← (PT_zz h.1).1] at c
  exact ⟨6, 7, _, _, _, ⟨by decide, by decide⟩, c_N_length l _ s m sc e so ck, c, h.j, isI_i _⟩
theorem sol_ext {s s' : Nat → Int32} (h : ∀ j, j < 5 → (s j = 0 ↔ s' j = 0)) : mSol s 5 = mSol s' 5 := by
  have a := pk_sol s 5 (Nat.le_refl _)
  have b := pk_sol s' 5 (Nat.le_refl _)
  apply bt_ext
  intro i hi
  by_cases h5 : i < 5
  · have ha := a.2 i h5
    have hb := b.2 i h5
    have hh := h i h5
    cases e1 : bt (mSol s 5) i <;> cases e2 : bt (mSol s' 5) i
    · rfl
    · rw [e1] at ha
      rw [e2] at hb
      have := hb.mp rfl
      exact absurd (ha.mpr ⟨h5, fun w => this.2 (hh.mp w)⟩) (by decide)
    · rw [e1] at ha
      rw [e2] at hb
      have := ha.mp rfl
      exact absurd (hb.mpr ⟨h5, fun w => this.2 (hh.mpr w)⟩) (by decide)
    · rfl
  · rw [((a.1 i hi).2 (by omega)).1, ((b.1 i hi).2 (by omega)).1]
theorem sol_set (s : Nat → Int32) (j : Nat) (hj : j < 5) (on : Int32) (h : on = 0 ∨ on = 1) : cSet (sB (nI j)) on (mSol s 5) = mSol (upd s j on) 5 := by
  have a := (pk_sol s 5 (Nat.le_refl _))
  have b := (pk_sol (upd s j on) 5 (Nat.le_refl _))
  have w := a.1.setS hj on
  apply bt_ext
  intro i hi
  by_cases h5 : i < 5
  · have hb := b.2 i h5
    have ha := a.2 i h5
    have key : bt (cSet (sB (nI j)) on (mSol s 5)) i = true ↔ bt (mSol (upd s j on) 5) i = true := by
      rw [hb]
      unfold cSet
      have es : sB (nI j) = sb (nI j) := rfl
      by_cases e : i = j
      · subst e
        rw [upd_h]
        rcases h with h | h
        · rw [if_pos h, h, bt_and, bt_xor, es, bt_sb i hj i hi, bt_m1 i hi]
          simp
        · rw [h, if_neg (by decide), bt_or, es, bt_sb i hj i hi]
          simp [h5]
      · rw [upd_o e, ← ha]
        split
        · rw [bt_and, bt_xor, es, bt_sb j hj i hi, bt_m1 i hi]; simp [e]
        · rw [bt_or, es, bt_sb j hj i hi]; simp [e]
    cases e1 : bt (cSet (sB (nI j)) on (mSol s 5)) i <;> cases e2 : bt (mSol (upd s j on) 5) i
    · rfl
    · rw [e1, e2] at key; exact absurd (key.mpr rfl) (by decide)
    · rw [e1, e2] at key; exact absurd (key.mp rfl) (by decide)
    · rfl
  · have hw := (w i hi)
    have g1 : bt (cSet (sB (nI j)) on (mSol s 5)) i = false := by
      rw [hw.1, if_neg h5]; split
      · exact bt_0 _
      · rfl
    rw [g1, ((b.1 i hi).2 (by omega)).1]
theorem nar_b {on : Int32} (h : on = 0 ∨ on = 1) : vp_nar .boolean on = on := by rcases h with h | h <;> rw [h] <;> decide
theorem j_declare (a on : Int32) (hon : on = 0 ∨ on = 1) : JOp l J q_N_declare q_M_declare [.int a, .int on] isI := by
  rintro X Y ⟨t, n, z, s, m, sc, e, so, ck, y, b, rfl, rfl, h⟩
  by_cases hv : isL a
  · obtain ⟨j, hj, ej⟩ := isL_n hv
    have c := c_M_declare l y b a on hv
    rw [nar_b hon, ej, cl_nI (by omega)] at c
    refine ⟨6, 7, _, _, _, ⟨by decide, by decide⟩, c_N_declare l _ s m sc e so ck a on hv, by rw [ej]; exact c, ?_, isI_i _⟩
    obtain ⟨h1, h2, h3, h4, h5⟩ := h
    refine JS.j ⟨h1, MT_c h2 rfl rfl, ?_, Or.inl rfl, ?_⟩
    · rw [ej, h3, sol_set (y 2) j hj on hon, us_s]
    · obtain ⟨k1, m', ⟨r1, r2, r3, r4, r5⟩, k2⟩ := h5
      exact ⟨k1, m', ⟨r1, rfl, r3, r4, r5⟩, k2⟩
  · exact ⟨6, 7, _, _, _, ⟨by decide, by decide⟩, c_N_declareN l _ s m sc e so ck a on hv, c_M_declareN l y b a on hv, h.j, isI_i _⟩
theorem j_statements : JOp l J q_N_statements q_M_statements [] isI := by
  rintro X Y ⟨t, n, z, s, m, sc, e, so, ck, y, b, rfl, rfl, h⟩
  have cx := c_N_statements l (zz t n z) s m sc e so ck
  by_cases hk : okX t n z
  · obtain ⟨g1, g2, g3, g4, g5⟩ := good h.n64 hk y
    rw [if_neg g5, g4] at cx
    exact ⟨6, 6, _, _, _, ⟨by decide, by decide⟩, cx, c_M_statements l y b h.2.1 g1, (h.ys ys_yP).j, isI_i _⟩
  · obtain ⟨g1, g2⟩ := bad h.n64 hk y
    rw [if_pos g2] at cx
    exact ⟨6, 6, _, _, _, ⟨by decide, by decide⟩, cx, c_M_statementsN l y b h.2.1 g1, (h.ys ys_mPar).j, isI_i _⟩
theorem j_alarms : JOp l J q_N_alarms q_M_alarms [] isI := by
  rintro X Y ⟨t, n, z, s, m, sc, e, so, ck, y, b, rfl, rfl, h⟩
  have hn := h.n64
  by_cases hk : okX t n z
  · obtain ⟨g1, g2, g3, g4, g5⟩ := good hn hk y
    have R := rel_ans hn (h.rel hk)
    have cx := c_N_alarms l (zz t n z) s m sc e so ck n _ _ (tab_kpr g2 hn) hn (PT_zz h.1).1 h.ck01 g5
    have cm := c_M_alarms l y b _ _ _ h.2.1 g1 g3
    rw [R.1] at cx
    exact ⟨7, 7, _, _, _, ⟨by decide, by decide⟩, cx, cm, ((h.set hk).ys ys_yE).j, isI_i _⟩
  · obtain ⟨g1, g2⟩ := bad hn hk y
    exact ⟨7, 7, _, _, _, ⟨by decide, by decide⟩, c_N_alarmsN l _ s m sc e so ck g2, c_M_alarmsN l y b h.2.1 g1, (h.ys ys_mPar).j, isI_i _⟩
theorem cnt_ok {t : Nat → Int32} {n : Nat} {z : Sg} {p : Int32} (hn : n ≤ 64) (h : cntP (zz t n z) n p) : okX t n z := Classical.byContradiction fun w => h.1 (bad hn w (fun _ _ => 0)).2
theorem j_alarm (p : Int32) : JOp l J q_N_alarm q_M_alarm [.int p] isI := by
  rintro X Y ⟨t, n, z, s, m, sc, e, so, ck, y, b, rfl, rfl, h⟩
  have hn := h.n64
  have hp := PT_zz h.1
  by_cases hc : cntP (zz t n z) n p
  · have hk := cnt_ok hn hc
    have hm := (cnt_lock hn y p).mp hc
    obtain ⟨j, hj, ej⟩ := le_nI hc.2.1 hc.2.2.1 (by omega)
    obtain ⟨g1, g2, g3, g4, g5⟩ := good hn hk y
    have R := rel_ans hn (h.rel hk)
    have cx := c_N_alarm l (zz t n z) s m sc e so ck n _ _ hp (tab_kpr g2 hn) h.ck01 p hc
    rw [ej] at hm
    have cm := c_M_alarm l y b _ _ _ h.2.1 j hj hm g3
    rw [ej, cl_nI (by omega), (R.2 j hj).1] at cx
    rw [ej]
    exact ⟨7, 7, _, _, _, ⟨by decide, by decide⟩, cx, cm, ((h.set hk).ys ys_yE).j, isI_i _⟩
  · have hm : ¬ cntM t n y p := fun w => hc ((cnt_lock hn y p).mpr w)
    exact ⟨7, 7, _, _, _, ⟨by decide, by decide⟩, c_N_alarmN l _ s m sc e so ck n hp p hc, c_M_alarmN l y b h.2.1 p hm, (h.ys ys_yF).j, isI_i _⟩
theorem j_sure (p v : Int32) : JOp l J q_N_sure q_M_sure [.int p, .int v] isI := by
  rintro X Y ⟨t, n, z, s, m, sc, e, so, ck, y, b, rfl, rfl, h⟩
  have hn := h.n64
  have hp := PT_zz h.1
  by_cases hv : isL v
  · by_cases hc : cntP (zz t n z) n p
    · have hk := cnt_ok hn hc
      have hm := (cnt_lock hn y p).mp hc
      obtain ⟨j, hj, ej⟩ := le_nI hc.2.1 hc.2.2.1 (by omega)
      obtain ⟨i, hi, ei⟩ := isL_n hv
      obtain ⟨g1, g2, g3, g4, g5⟩ := good hn hk y
      have R := rel_ans hn (h.rel hk)
      have cx := c_N_sure l (zz t n z) s m sc e so ck n _ _ hp (tab_kpr g2 hn) h.ck01 p v hc hv
      rw [ej] at hm
      have cm := c_M_sure l y b _ _ _ h.2.1 j hj v hv hm g3
      have q := ((R.2 j hj).2 i hi).1
      rw [← ei] at q
      rw [ej, cl_nI (by omega), q] at cx
      rw [ej]
      exact ⟨7, 7, _, _, _, ⟨by decide, by decide⟩, cx, cm, ((h.set hk).ys ys_yE).j, isI_i _⟩
    · have hm : ¬ cntM t n y p := fun w => hc ((cnt_lock hn y p).mpr w)
      exact ⟨7, 7, _, _, _, ⟨by decide, by decide⟩, c_N_sureN l _ s m sc e so ck n hp p v (fun w => hc w.1), c_M_sureN l y b h.2.1 p v hv hm, (h.ys ys_yF).j, isI_i _⟩
  · exact ⟨7, 7, _, _, _, ⟨by decide, by decide⟩, c_N_sureN l _ s m sc e so ck n hp p v (fun w => hv w.2), c_M_sureO l y b p v hv, h.j, isI_i _⟩
theorem j_linked (p v : Int32) : JOp l J q_N_linked q_M_linked [.int p, .int v] isI := by
  rintro X Y ⟨t, n, z, s, m, sc, e, so, ck, y, b, rfl, rfl, h⟩
  have hn := h.n64
  have hp := PT_zz h.1
  by_cases hv : isL v
  · by_cases hc : cntP (zz t n z) n p
    · have hk := cnt_ok hn hc
      have hm := (cnt_lock hn y p).mp hc
      obtain ⟨j, hj, ej⟩ := le_nI hc.2.1 hc.2.2.1 (by omega)
      obtain ⟨i, hi, ei⟩ := isL_n hv
      obtain ⟨g1, g2, g3, g4, g5⟩ := good hn hk y
      have R := rel_ans hn (h.rel hk)
      have cx := c_N_linked l (zz t n z) s m sc e so ck n _ _ hp (tab_kpr g2 hn) h.ck01 p v hc hv
      rw [ej] at hm
      have cm := c_M_linked l y b _ _ _ h.2.1 j hj v hv hm g3
      have q := ((R.2 j hj).2 i hi).2
      rw [← ei] at q
      rw [ej, cl_nI (by omega), q] at cx
      rw [ej]
      exact ⟨7, 7, _, _, _, ⟨by decide, by decide⟩, cx, cm, ((h.set hk).ys ys_yE).j, isI_i _⟩
    · have hm : ¬ cntM t n y p := fun w => hc ((cnt_lock hn y p).mpr w)
      exact ⟨7, 7, _, _, _, ⟨by decide, by decide⟩, c_N_linkedN l _ s m sc e so ck n hp p v (fun w => hc w.1), c_M_linkedN l y b h.2.1 p v hv hm, (h.ys ys_yF).j, isI_i _⟩
  · exact ⟨7, 7, _, _, _, ⟨by decide, by decide⟩, c_N_linkedN l _ s m sc e so ck n hp p v (fun w => hv w.2), c_M_linkedO l y b p v hv, h.j, isI_i _⟩
theorem run_inv {z : Sg} {n : Nat} {u v lo so : Nat → Nat} {solid : Int32} (hk : KN z n u v) : ∀ (f k p : Nat) (m : MSt), MInv m → p ≤ n → MInv (mRun z u v lo so solid f k p m).2.1
  | 0, k, p, m, hm, _ => hm
  | f + 1, k, p, m, hm, hp => by
    have w := mVis_inv z (lo := lo) (so := so) (solid := solid) hk hm hp
    simp only [mRun]
    split
    · exact run_inv hk f (k + 1) _ _ w.1 w.2
    · exact w.1
theorem j_run (st : Int32) (o : Int64) : JOp l J q_N_run q_M_run [.int st, .long o] isI := by
  rintro X Y ⟨t, n, z, s, m, sc, e, so, ck, y, b, rfl, rfl, h⟩
  have hn := h.n64
  by_cases hk : okX t n z
  · obtain ⟨g1, g2, g3, g4, g5⟩ := good hn hk y
    obtain ⟨h1, h2, h3, h4, k1, m', r, k2, k3, k4, k5, k6, k7⟩ := h
    have y3 : yR t n y 3 = yP t n y 3 := us_n (by decide)
    have y2 : yR t n y 2 = y 2 := (us_n (by decide)).trans ys_yP.2.2.1
    have T : Tab (chr t n) n (zz t n z) (yR t n y) (uu t n z) (vv t n z) := tab_c y3 g2
    have M : MPr (yR t n y) (chr t n) n (uu t n z) (uu t n z) (vv t n z) := mpr_c y3 (us_n (by decide)) (us_n (by decide)) (us_n (by decide)) (us_n (by decide)) g3
    have h0 : 0 < yR t n y 3 0 := by rw [y3]; exact role_0 hn g1
    have P := prep_lock (yR t n y 2) st o m m' k3 k4 k5
    have I0 : MInv (mPrep (mSol (yR t n y 2) 5 ||| st) o m) := mPrep_inv k1
    have so' : so = mSol (yR t n y 2) 5 := by rw [y2]; exact h3
    have cx := c_N_run l (zz t n z) s m sc e so ck n (uu t n z) (vv t n z) (loF (zz t n z)) (soF (zz t n z)) (tab_kpr T hn) (tab_kn T) (tab_rpr T) hn k1 st o g5
    have cm := c_M_run l y (uu t n z) (uu t n z) (vv t n z) h2 g1 m' (y 0 24) r (fun _ => trivial) st o M (tab_nm T) (tab_mnx T) h0 (by rw [← P]; exact I0)
    have L := run_lock T 200 0 0 (mPrep (mSol (yR t n y 2) 5 ||| st) o m) (Nat.zero_le _) h0
    have IF := run_inv (z := zz t n z) (lo := loF (zz t n z)) (so := soF (zz t n z)) (solid := mSol (yR t n y 2) 5) (tab_kn T) 200 0 0 _ I0 (Nat.zero_le _)
    rw [← r.eq, k2, ← P] at cm
    rw [so', L.1, L.2.1, L.2.2] at cx
    rw [L.2.1] at IF
    rw [so'] at h3 ⊢
    generalize mRm (yR t n y) (chr t n) (uu t n z) (uu t n z) (vv t n z) 200 0 0 (mPrep (mSol (yR t n y 2) 5 ||| st) o m) = Q at cx cm IF
    refine ⟨7, 7, _, _, _, ⟨by decide, by decide⟩, cx, cm, ?_, isI_i _⟩
    unfold vR
    refine JS.j ⟨h1, ?_, ?_, ?_, ⟨IF.1, IF.2.1, IF.2.2.1, IF.2.2.2.2⟩, Q.2.1, ⟨rfl, rfl, rfl, rfl, rfl⟩, rfl, fun _ _ => rfl, rfl, rfl, IF.2.2.2.2, Or.inr ⟨?_, rfl, rfl, rfl⟩⟩
    · exact MT_c (MT_yP h2) rfl rfl
    · rfl
    · rw [← so']; exact h4
    · show ¬ (1 : Int32) = 0
      decide
  · obtain ⟨g1, g2⟩ := bad hn hk y
    exact ⟨7, 7, _, _, _, ⟨by decide, by decide⟩, c_N_runN l _ s m sc e so ck st o g2, c_M_runN l y h.2.1 g1 b st o, (h.ys ys_mPar).j, isI_i _⟩
theorem j_held (v : Int32) : JOp l J q_N_held q_M_held [.int v] isI := by
  rintro X Y ⟨t, n, z, s, m, sc, e, so, ck, y, b, rfl, rfl, h⟩
  by_cases hv : isL v
  · obtain ⟨j, hj, ej⟩ := isL_n hv
    have cx := c_N_held l (zz t n z) s m sc e so ck v hv
    have cm := c_M_held l y b v hv
    obtain ⟨-, m', r, k2, k3, k4, k5, k6, k7⟩ := h.2.2.2.2
    have ee : oI (m.1 v.toNatClampNeg) = (if y 0 19 = 0 then -1 else y 13 v.toNatClampNeg) := by
      rw [ej, cl_nI (by omega)]
      rcases k7 with ⟨a1, a2, -⟩ | ⟨a1, a2, -⟩
      · rw [if_pos a1, a2 j hj]; rfl
      · rw [if_neg a1, r.2.2.1, a2]
    rw [ee] at cx
    exact ⟨7, 7, _, _, _, ⟨by decide, by decide⟩, cx, cm, h.j, isI_i _⟩
  · exact ⟨7, 7, _, _, _, ⟨by decide, by decide⟩, c_N_heldN l _ s m sc e so ck v hv, c_M_heldN l y b v hv, h.j, isI_i _⟩
theorem j_field (o f : Int32) : JOp l J q_N_field q_M_field [.int o, .int f] isI := by
  rintro X Y ⟨t, n, z, s, m, sc, e, so, ck, y, b, rfl, rfl, h⟩
  obtain ⟨k1, m', r, k2, k3, k4, k5, k6, k7⟩ := h.2.2.2.2
  have cm := c_M_field l y b m'.2.2.2.1 r.1 k6 o f
  by_cases ho : isO m o
  · have cx := c_N_field l (zz t n z) s m sc e so ck k1.2.2.2 o f ho
    refine ⟨7, 7, _, _, _, ⟨by decide, by decide⟩, cx, cm _ ?_, h.j, isI_i _⟩
    obtain ⟨j, hj, ej⟩ := isO_n k1.2.2.2 ho
    rcases k7 with ⟨a1, a2, a3, -⟩ | ⟨a1, a2, a3, -⟩
    · rw [a3] at hj; exact absurd hj (Nat.not_lt_zero _)
    · unfold isO at ho
      rw [a3] at ho
      rw [if_neg a1, if_pos ho, r.2.2.2.1, r.2.2.2.2, k4, k5]
  · have cx := c_N_fieldN l (zz t n z) s m sc e so ck o f ho
    refine ⟨7, 7, _, _, _, ⟨by decide, by decide⟩, cx, cm _ ?_, h.j, isI_i _⟩
    rcases k7 with ⟨a1, a2, a3, -⟩ | ⟨a1, a2, a3, -⟩
    · rw [if_pos a1]
    · unfold isO at ho
      rw [a3] at ho
      rw [if_neg a1, if_neg ho]
theorem j_objects : JOp l J q_N_objects q_M_objects [] isI := by
  rintro X Y ⟨t, n, z, s, m, sc, e, so, ck, y, b, rfl, rfl, h⟩
  obtain ⟨k1, m', r, k2, k3, k4, k5, k6, k7⟩ := h.2.2.2.2
  have cx := c_N_objects l (zz t n z) s m sc e so ck
  have cm := c_M_objects l y b
  have ee : nI m.2.2.2.1 = (if y 0 19 = 0 then 0 else y 0 21) := by
    rcases k7 with ⟨a1, a2, a3, -⟩ | ⟨a1, a2, a3, -⟩
    · rw [if_pos a1, a3]; rfl
    · rw [if_neg a1, a3, r.1]
  rw [ee] at cx
  exact ⟨7, 7, _, _, _, ⟨by decide, by decide⟩, cx, cm, h.j, isI_i _⟩
theorem j_steps : JOp l J q_N_steps q_M_steps [] isI := by
  rintro X Y ⟨t, n, z, s, m, sc, e, so, ck, y, b, rfl, rfl, h⟩
  obtain ⟨k1, m', r, k2, k3, k4, k5, k6, k7⟩ := h.2.2.2.2
  have cx := c_N_steps l (zz t n z) s m sc e so ck
  have cm := c_M_steps l y b
  have ee : sc = (if y 0 19 = 0 then -1 else y 0 24) := by
    rcases k7 with ⟨a1, a2, a3, a4⟩ | ⟨a1, a2, a3, a4⟩
    · rw [if_pos a1, a4]
    · rw [if_neg a1, a4]
  rw [← ee] at cm
  exact ⟨7, 7, _, _, _, ⟨by decide, by decide⟩, cx, cm, h.j, isI_i _⟩
theorem j_ops : LawOps l J := by
  refine ⟨?_, ?_, j_type l, j_wipe l, j_length l, j_declare l, j_statements l, j_alarms l, j_alarm l, j_sure l, j_linked l, j_run l, j_held l, j_field l, j_objects l, j_steps l⟩
  · rintro X Y ⟨t, n, z, s, m, sc, e, so, ck, y, b, rfl, rfl, h⟩
    exact ⟨_, rfl⟩
  · rintro X Y ⟨t, n, z, s, m, sc, e, so, ck, y, b, rfl, rfl, h⟩
    exact ⟨_, rfl⟩
end Ops
theorem zI_zz : zI = zz (fun _ => 0) 0 (fun _ _ => 0) := by
  unfold zI zz zPar
  split
  · rw [fLd_0, fLd_0]
  · rfl
theorem j_0 : J (wA zI s0 m0 (-1) 0 0 0) (vM (fun _ _ => 0) 0) := by
  rw [zI_zz]
  refine JS.j ⟨⟨rfl, by decide, rfl, fun _ => okc_0⟩, ⟨rfl, by decide, rfl⟩, rfl, Or.inl rfl, ⟨fun v o h => ?_, fun o => show 0 < 8 from by decide, fun o q h => ?_, by decide⟩, (fun _ => some 0, fun _ => 0, fun _ => some 0, 0, 0), ⟨rfl, rfl, rfl, rfl, rfl⟩, rfl, fun v h => ?_, rfl, rfl, by decide, Or.inl ⟨rfl, fun v h => ?_, rfl, rfl⟩⟩
  · have h : (if v < 5 then none else some 0) = some o := h
    split at h
    · cases h
    · rw [← Option.some.inj h]; decide
  · have h : (some 0 : Option Nat) = some q := h
    rw [← Option.some.inj h]; decide
  · show (if v < 5 then none else some 0) = some 0
    rw [if_neg (by omega)]
  · show (if v < 5 then none else some 0) = none
    rw [if_pos h]
