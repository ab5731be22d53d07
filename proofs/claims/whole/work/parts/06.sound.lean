theorem xcat1 {v : Value} (ad : Nat → Nat) (h : xc2 v = false) : (xv ad v).category = 1 := by
  rw [xv_cat]; cases v <;> first | rfl | cases h
theorem bif_t {b : Bool} {P : Prop} (h : bif b then P else False) : b = true ∧ P := by
  cases b
  · exact h.elim
  · exact ⟨rfl, h⟩
theorem bif_f {b : Bool} {P : Prop} (h : bif b then False else P) : b = false ∧ P := by
  cases b
  · exact ⟨rfl, h⟩
  · exact h.elim
theorem xblt {a b : Nat} (h : Nat.blt a b = true) : a < b := Nat.le_of_ble_eq_true h
set_option maxHeartbeats 4000000 in
set_option maxRecDepth 100000 in
theorem xs_sound {l : Launch} {d : Nat} {q : XI} {T : List (Nat × XE)} {F : List (Nat × XF)} {C : List (Nat × XK)} {Rt : Option Value → List va_E → Prop} {k : Nat → List (Nat × Value) → List Value → List va_E → Prop} {pc : Nat} {ls : List (Nat × Value)} {st : List Value} {w : List va_E}
    (cls : XCls) (ok : XOk q T F C) (hk : ∀ pc ls st w, k pc ls st w → XW l d q Rt pc ls st w) (h : xs d q.2.2.1 T F C (xM l d) q.2.2.2 Rt k pc ls st w) : XW l d q Rt pc ls st w := by
  intro p e s m args below meth c D tc ad A H locs la X hK hA hP hD hS hl
  obtain ⟨hx, hb, hml, hown, hts, hr, hlk⟩ := id X
  obtain ⟨okT, okF, okC⟩ := ok
  have go : ∀ {pc ls st w H locs la}, k pc ls st w → va_P D vwCl (xz tc ad 0 w) H → va_D A (xz tc ad 0 w) → va_S A s.heap H locs → lv_has la q.2.2.1 (xlm ad ls) → W p l e (xR d) s m args below meth c H locs 0 0 (MQ below (XQ D tc ad A Rt) args s 0 0 A) (F0 m pc la (st.map (xv ad))) :=
    fun hq hP hD hS hl => hk _ _ _ _ hq p e s m args below meth c D tc ad A _ _ _ X hK hA hP hD hS hl
  unfold xs at h
  have hg : xgood q.2.1 pc (xfind T pc) = true := by
    rcases xfind_in T pc with h1 | h1
    · rw [h1]; rfl
    · exact List.all_eq_true.mp okT _ h1
  generalize xfind T pc = e0 at h hg
  obtain ⟨ins, nxt, tgt, cst, sw⟩ := e0
  cases ins with
  | iconst n =>
    simp only [xgood, Bool.and_eq_true, decide_eq_true_eq] at hg
    obtain ⟨hd, hn, hs⟩ := hg
    subst hn
    exact lv_iconst hx hb hd hs (go h hP hD hS hl)
  | bipush n =>
    simp only [xgood, Bool.and_eq_true, decide_eq_true_eq] at hg
    obtain ⟨hd, hn, hs⟩ := hg
    subst hn
    exact lv_bipush hx hb hd hs (go h hP hD hS hl)
  | sipush n =>
    simp only [xgood, Bool.and_eq_true, decide_eq_true_eq] at hg
    obtain ⟨hd, hn, hs⟩ := hg
    subst hn
    exact lv_sipush hx hb hd hs (go h hP hD hS hl)
  | iload_n i =>
    simp only [xgood, Bool.and_eq_true, decide_eq_true_eq] at hg
    obtain ⟨hd, hn, -⟩ := hg
    subst hn
    replace h := xli_of h
    obtain ⟨x, h1, h⟩ := h
    exact lv_iload_n hx hb hd rfl (xlm_get hl h1) (go h hP hD hS hl)
  | iload i =>
    simp only [xgood, Bool.and_eq_true, decide_eq_true_eq] at hg
    obtain ⟨hd, hn, -⟩ := hg
    subst hn
    replace h := xli_of h
    obtain ⟨x, h1, h⟩ := h
    exact lv_iload hx hb hd (xlm_get hl h1) (go h hP hD hS hl)
  | lload_n i =>
    simp only [xgood, Bool.and_eq_true, decide_eq_true_eq] at hg
    obtain ⟨hd, hn, -⟩ := hg
    subst hn
    replace h := xll_of h
    obtain ⟨x, h1, h⟩ := h
    exact lv_lload_n hx hb hd rfl (xlm_get hl h1) (go h hP hD hS hl)
  | lload i =>
    simp only [xgood, Bool.and_eq_true, decide_eq_true_eq] at hg
    obtain ⟨hd, hn, -⟩ := hg
    subst hn
    replace h := xll_of h
    obtain ⟨x, h1, h⟩ := h
    exact lv_lload hx hb hd (xlm_get hl h1) (go h hP hD hS hl)
  | aload_n i =>
    simp only [xgood, Bool.and_eq_true, decide_eq_true_eq] at hg
    obtain ⟨hd, hn, -⟩ := hg
    subst hn
    replace h := xlr_of h
    obtain ⟨x, h1, h⟩ := h
    exact lv_aload_n hx hb hd rfl (xlm_get hl h1) (go h hP hD hS hl)
  | aload i =>
    simp only [xgood, Bool.and_eq_true, decide_eq_true_eq] at hg
    obtain ⟨hd, hn, -⟩ := hg
    subst hn
    replace h := xlr_of h
    obtain ⟨x, h1, h⟩ := h
    exact lv_aload hx hb hd (xlm_get hl h1) (go h hP hD hS hl)
  | istore_n i =>
    simp only [xgood, Bool.and_eq_true, decide_eq_true_eq] at hg
    obtain ⟨hd, hn, -⟩ := hg
    subst hn
    replace h := x1i_of h
    obtain ⟨x, r, rfl, h⟩ := h
    replace h := bif_t h
    obtain ⟨h1, h⟩ := h
    exact lv_istore_n hx hb hd rfl hl (xblt h1) rfl (fun la' hl' => go h hP hD hS (xlm_st1 (v := .int x) hl'))
  | istore i =>
    simp only [xgood, Bool.and_eq_true, decide_eq_true_eq] at hg
    obtain ⟨hd, hn, -⟩ := hg
    subst hn
    replace h := x1i_of h
    obtain ⟨x, r, rfl, h⟩ := h
    replace h := bif_t h
    obtain ⟨h1, h⟩ := h
    exact lv_istore hx hb hd hl (xblt h1) rfl (fun la' hl' => go h hP hD hS (xlm_st1 (v := .int x) hl'))
  | lstore_n i =>
    simp only [xgood, Bool.and_eq_true, decide_eq_true_eq] at hg
    obtain ⟨hd, hn, -⟩ := hg
    subst hn
    replace h := x1l_of h
    obtain ⟨x, r, rfl, h⟩ := h
    replace h := bif_t h
    obtain ⟨h1, h⟩ := h
    exact lv_lstore_n hx hb hd rfl hl (xblt h1) rfl (fun la' hl' => go h hP hD hS (xlm_st2 (v := .long x) hl'))
  | lstore i =>
    simp only [xgood, Bool.and_eq_true, decide_eq_true_eq] at hg
    obtain ⟨hd, hn, -⟩ := hg
    subst hn
    replace h := x1l_of h
    obtain ⟨x, r, rfl, h⟩ := h
    replace h := bif_t h
    obtain ⟨h1, h⟩ := h
    exact lv_lstore hx hb hd hl (xblt h1) rfl (fun la' hl' => go h hP hD hS (xlm_st2 (v := .long x) hl'))
  | astore_n i =>
    simp only [xgood, Bool.and_eq_true, decide_eq_true_eq] at hg
    obtain ⟨hd, hn, -⟩ := hg
    subst hn
    replace h := x1r_of h
    obtain ⟨x, r, rfl, h⟩ := h
    replace h := bif_t h
    obtain ⟨h1, h⟩ := h
    exact lv_astore_n hx hb hd rfl hl (xblt h1) rfl (fun la' hl' => go h hP hD hS (xlm_st1 (v := .ref x) hl'))
  | astore i =>
    simp only [xgood, Bool.and_eq_true, decide_eq_true_eq] at hg
    obtain ⟨hd, hn, -⟩ := hg
    subst hn
    replace h := x1r_of h
    obtain ⟨x, r, rfl, h⟩ := h
    replace h := bif_t h
    obtain ⟨h1, h⟩ := h
    exact lv_astore hx hb hd hl (xblt h1) rfl (fun la' hl' => go h hP hD hS (xlm_st1 (v := .ref x) hl'))
  | iinc i n =>
    simp only [xgood, Bool.and_eq_true, decide_eq_true_eq] at hg
    obtain ⟨hd, hn, hs⟩ := hg
    subst hn; subst hs
    replace h := xli_of h
    obtain ⟨x, h0, h⟩ := h
    replace h := bif_t h
    obtain ⟨h1, h⟩ := h
    obtain ⟨k0, hk0⟩ := List.getElem?_of_mem (List.mem_map.mpr ⟨(i, Value.int x), xg_mem ls i _ h0, rfl⟩ : ((i, xv ad (Value.int x)) : Nat × Value) ∈ xlm ad ls)
    exact lv_iinc hx hb hd hl hk0 rfl (xblt h1) rfl (fun la' hl' => go h hP hD hS (xlm_st1 (v := .int (x + Int32.ofInt n)) hl'))
  | iadd =>
    simp only [xgood, Bool.and_eq_true, decide_eq_true_eq] at hg
    obtain ⟨hd, hn, -⟩ := hg
    subst hn
    replace h := x1i_of h
    obtain ⟨y, r, rfl, h⟩ := h
    replace h := x1i_of h
    obtain ⟨x, r, rfl, h⟩ := h
    exact lv_iadd hx hb hd (go h hP hD hS hl)
  | isub =>
    simp only [xgood, Bool.and_eq_true, decide_eq_true_eq] at hg
    obtain ⟨hd, hn, -⟩ := hg
    subst hn
    replace h := x1i_of h
    obtain ⟨y, r, rfl, h⟩ := h
    replace h := x1i_of h
    obtain ⟨x, r, rfl, h⟩ := h
    exact lv_isub hx hb hd (go h hP hD hS hl)
  | imul =>
    simp only [xgood, Bool.and_eq_true, decide_eq_true_eq] at hg
    obtain ⟨hd, hn, -⟩ := hg
    subst hn
    replace h := x1i_of h
    obtain ⟨y, r, rfl, h⟩ := h
    replace h := x1i_of h
    obtain ⟨x, r, rfl, h⟩ := h
    exact lv_imul hx hb hd (go h hP hD hS hl)
  | iand =>
    simp only [xgood, Bool.and_eq_true, decide_eq_true_eq] at hg
    obtain ⟨hd, hn, -⟩ := hg
    subst hn
    replace h := x1i_of h
    obtain ⟨y, r, rfl, h⟩ := h
    replace h := x1i_of h
    obtain ⟨x, r, rfl, h⟩ := h
    exact lv_iand hx hb hd (go h hP hD hS hl)
  | ior =>
    simp only [xgood, Bool.and_eq_true, decide_eq_true_eq] at hg
    obtain ⟨hd, hn, -⟩ := hg
    subst hn
    replace h := x1i_of h
    obtain ⟨y, r, rfl, h⟩ := h
    replace h := x1i_of h
    obtain ⟨x, r, rfl, h⟩ := h
    exact lv_ior hx hb hd (go h hP hD hS hl)
  | ixor =>
    simp only [xgood, Bool.and_eq_true, decide_eq_true_eq] at hg
    obtain ⟨hd, hn, -⟩ := hg
    subst hn
    replace h := x1i_of h
    obtain ⟨y, r, rfl, h⟩ := h
    replace h := x1i_of h
    obtain ⟨x, r, rfl, h⟩ := h
    exact lv_ixor hx hb hd (go h hP hD hS hl)
  | ishl =>
    simp only [xgood, Bool.and_eq_true, decide_eq_true_eq] at hg
    obtain ⟨hd, hn, -⟩ := hg
    subst hn
    replace h := x1i_of h
    obtain ⟨y, r, rfl, h⟩ := h
    replace h := x1i_of h
    obtain ⟨x, r, rfl, h⟩ := h
    exact lv_ishl hx hb hd (go h hP hD hS hl)
  | ishr =>
    simp only [xgood, Bool.and_eq_true, decide_eq_true_eq] at hg
    obtain ⟨hd, hn, -⟩ := hg
    subst hn
    replace h := x1i_of h
    obtain ⟨y, r, rfl, h⟩ := h
    replace h := x1i_of h
    obtain ⟨x, r, rfl, h⟩ := h
    exact lv_ishr hx hb hd (go h hP hD hS hl)
  | iushr =>
    simp only [xgood, Bool.and_eq_true, decide_eq_true_eq] at hg
    obtain ⟨hd, hn, -⟩ := hg
    subst hn
    replace h := x1i_of h
    obtain ⟨y, r, rfl, h⟩ := h
    replace h := x1i_of h
    obtain ⟨x, r, rfl, h⟩ := h
    exact lv_iushr hx hb hd rfl (go h hP hD hS hl)
  | ineg =>
    simp only [xgood, Bool.and_eq_true, decide_eq_true_eq] at hg
    obtain ⟨hd, hn, -⟩ := hg
    subst hn
    replace h := x1i_of h
    obtain ⟨x, r, rfl, h⟩ := h
    exact lv_ineg hx hb hd (go h hP hD hS hl)
  | land =>
    simp only [xgood, Bool.and_eq_true, decide_eq_true_eq] at hg
    obtain ⟨hd, hn, -⟩ := hg
    subst hn
    replace h := x1l_of h
    obtain ⟨y, r, rfl, h⟩ := h
    replace h := x1l_of h
    obtain ⟨x, r, rfl, h⟩ := h
    exact lv_land hx hb hd (go h hP hD hS hl)
  | lor =>
    simp only [xgood, Bool.and_eq_true, decide_eq_true_eq] at hg
    obtain ⟨hd, hn, -⟩ := hg
    subst hn
    replace h := x1l_of h
    obtain ⟨y, r, rfl, h⟩ := h
    replace h := x1l_of h
    obtain ⟨x, r, rfl, h⟩ := h
    exact lv_lor hx hb hd (go h hP hD hS hl)
  | lushr =>
    simp only [xgood, Bool.and_eq_true, decide_eq_true_eq] at hg
    obtain ⟨hd, hn, -⟩ := hg
    subst hn
    replace h := x1i_of h
    obtain ⟨y, r, rfl, h⟩ := h
    replace h := x1l_of h
    obtain ⟨x, r, rfl, h⟩ := h
    exact lv_lushr hx hb hd rfl (go h hP hD hS hl)
  | lshl =>
    simp only [xgood, Bool.and_eq_true, decide_eq_true_eq] at hg
    obtain ⟨hd, hn, -⟩ := hg
    subst hn
    replace h := x1i_of h
    obtain ⟨y, r, rfl, h⟩ := h
    replace h := x1l_of h
    obtain ⟨x, r, rfl, h⟩ := h
    exact lv_lshl hx hb hd rfl (go h hP hD hS hl)
  | lshr =>
    simp only [xgood, Bool.and_eq_true, decide_eq_true_eq] at hg
    obtain ⟨hd, hn, -⟩ := hg
    subst hn
    replace h := x1i_of h
    obtain ⟨y, r, rfl, h⟩ := h
    replace h := x1l_of h
    obtain ⟨x, r, rfl, h⟩ := h
    exact lv_lshr hx hb hd rfl (go h hP hD hS hl)
  | i2l =>
    simp only [xgood, Bool.and_eq_true, decide_eq_true_eq] at hg
    obtain ⟨hd, hn, -⟩ := hg
    subst hn
    replace h := x1i_of h
    obtain ⟨x, r, rfl, h⟩ := h
    exact lv_i2l hx hb hd rfl (go h hP hD hS hl)
  | l2i =>
    simp only [xgood, Bool.and_eq_true, decide_eq_true_eq] at hg
    obtain ⟨hd, hn, -⟩ := hg
    subst hn
    replace h := x1l_of h
    obtain ⟨x, r, rfl, h⟩ := h
    exact lv_l2i hx hb hd rfl (go h hP hD hS hl)
  | i2c =>
    simp only [xgood, Bool.and_eq_true, decide_eq_true_eq] at hg
    obtain ⟨hd, hn, -⟩ := hg
    subst hn
    replace h := x1i_of h
    obtain ⟨x, r, rfl, h⟩ := h
    exact lv_i2c hx hb hd rfl (go h hP hD hS hl)
  | dup =>
    simp only [xgood, Bool.and_eq_true, decide_eq_true_eq] at hg
    obtain ⟨hd, hn, -⟩ := hg
    subst hn
    replace h := x1v_of h
    obtain ⟨v, r, rfl, h⟩ := h
    replace h := bif_f h
    obtain ⟨h1, h⟩ := h
    exact lv_dup hx hb hd (xcat1 ad h1) (go h hP hD hS hl)
  | pop =>
    simp only [xgood, Bool.and_eq_true, decide_eq_true_eq] at hg
    obtain ⟨hd, hn, -⟩ := hg
    subst hn
    replace h := x1v_of h
    obtain ⟨v, r, rfl, h⟩ := h
    replace h := bif_f h
    obtain ⟨h1, h⟩ := h
    exact lv_pop hx hb hd (xcat1 ad h1) (go h hP hD hS hl)
  | dup_x1 =>
    simp only [xgood, Bool.and_eq_true, decide_eq_true_eq] at hg
    obtain ⟨hd, hn, -⟩ := hg
    subst hn
    replace h := x1v_of h
    obtain ⟨v, r, rfl, h⟩ := h
    replace h := x1v_of h
    obtain ⟨u, r, rfl, h⟩ := h
    replace h := bif_f h
    obtain ⟨h1, h⟩ := h
    have h1 := Bool.or_eq_false_iff.mp h1
    exact lv_dup_x1 hx hb hd (xcat1 ad h1.1) (xcat1 ad h1.2) (go h hP hD hS hl)
  | dup2 =>
    simp only [xgood, Bool.and_eq_true, decide_eq_true_eq] at hg
    obtain ⟨hd, hn, -⟩ := hg
    subst hn
    replace h := x1v_of h
    obtain ⟨v, r, rfl, h⟩ := h
    replace h := x1v_of h
    obtain ⟨u, r, rfl, h⟩ := h
    replace h := bif_f h
    obtain ⟨h1, h⟩ := h
    have h1 := Bool.or_eq_false_iff.mp h1
    exact lv_dup2_11 hx hb hd (xcat1 ad h1.1) (xcat1 ad h1.2) (go h hP hD hS hl)
  | ifCond cnd off =>
    simp only [xgood, Bool.and_eq_true, decide_eq_true_eq] at hg
    obtain ⟨hd, hn, hs⟩ := hg
    subst hn
    replace h := x1i_of h
    obtain ⟨x, r, rfl, h⟩ := h
    cases cnd with
    | eq => exact lv_if_eq hx hb hd hs (fun q => go (h.1 q) hP hD hS hl) (fun q => go (h.2 q) hP hD hS hl)
    | ne => exact lv_if_ne hx hb hd hs (fun q => go (h.1 q) hP hD hS hl) (fun q => go (h.2 q) hP hD hS hl)
    | lt => exact lv_if_lt hx hb hd hs (fun q => go (h.1 q) hP hD hS hl) (fun q => go (h.2 q) hP hD hS hl)
    | ge => exact lv_if_ge hx hb hd hs (fun q => go (h.1 q) hP hD hS hl) (fun q => go (h.2 q) hP hD hS hl)
    | gt => exact lv_if_gt hx hb hd hs (fun q => go (h.1 q) hP hD hS hl) (fun q => go (h.2 q) hP hD hS hl)
    | le => exact lv_if_le hx hb hd hs (fun q => go (h.1 q) hP hD hS hl) (fun q => go (h.2 q) hP hD hS hl)
  | if_icmp cnd off =>
    simp only [xgood, Bool.and_eq_true, decide_eq_true_eq] at hg
    obtain ⟨hd, hn, hs⟩ := hg
    subst hn
    replace h := x1i_of h
    obtain ⟨y, r, rfl, h⟩ := h
    replace h := x1i_of h
    obtain ⟨x, r, rfl, h⟩ := h
    cases cnd with
    | eq => exact lv_icmp_eq hx hb hd hs (fun q => go (h.1 q) hP hD hS hl) (fun q => go (h.2 q) hP hD hS hl)
    | ne => exact lv_icmp_ne hx hb hd hs (fun q => go (h.1 q) hP hD hS hl) (fun q => go (h.2 q) hP hD hS hl)
    | lt => exact lv_icmp_lt hx hb hd hs (fun q => go (h.1 q) hP hD hS hl) (fun q => go (h.2 q) hP hD hS hl)
    | ge => exact lv_icmp_ge hx hb hd hs (fun q => go (h.1 q) hP hD hS hl) (fun q => go (h.2 q) hP hD hS hl)
    | gt => exact lv_icmp_gt hx hb hd hs (fun q => go (h.1 q) hP hD hS hl) (fun q => go (h.2 q) hP hD hS hl)
    | le => exact lv_icmp_le hx hb hd hs (fun q => go (h.1 q) hP hD hS hl) (fun q => go (h.2 q) hP hD hS hl)
  | goto off =>
    simp only [xgood, Bool.and_eq_true, decide_eq_true_eq] at hg
    obtain ⟨hd, hn, hs⟩ := hg
    exact lv_goto hx hb hd hs (go h hP hD hS hl)
  | tableswitch dflt lo hi offs =>
    simp only [xgood, Bool.and_eq_true, decide_eq_true_eq] at hg
    obtain ⟨hd, hs, hh, ht⟩ := hg
    replace h := x1i_of h
    obtain ⟨x, r, rfl, h⟩ := h
    obtain ⟨q1, q2⟩ := xswT_of offs.toList lo sw ht h
    by_cases hc : x.toInt < lo ∨ hi < x.toInt
    · refine lv_tableOut hx hb hd hc hs (go (q2 (fun j hj => ?_)) hP hD hS hl)
      have hj : j < offs.size := by simpa using hj
      omega
    · have hc1 : ¬ x.toInt < lo := fun z => hc (Or.inl z)
      have hc2 : ¬ hi < x.toInt := fun z => hc (Or.inr z)
      have hlt : (x.toInt - lo).toNat < offs.size := by omega
      obtain ⟨t, e1, e2⟩ := q1 (x.toInt - lo).toNat offs[(x.toInt - lo).toNat] (by rw [Array.getElem?_toList]; exact Array.getElem?_eq_getElem hlt) (by omega)
      exact lv_tableIn hx hb hd hc1 hc2 (Array.getElem?_eq_getElem hlt) e1 (go e2 hP hD hS hl)
  | getfield idx =>
    simp only [xgood, Bool.and_eq_true, decide_eq_true_eq] at hg
    obtain ⟨hd, hn, -⟩ := hg
    subst hn
    replace h := x1r_of h
    obtain ⟨i, r, rfl, h⟩ := h
    replace h := xlk_of h
    obtain ⟨f, hf, h⟩ := h
    replace h := xob_of h
    obtain ⟨fs, hw, h⟩ := h
    replace h := xop_of h
    obtain ⟨v, hv, h⟩ := h
    obtain ⟨Cn, U, N, hc, hkN, -, -, hlink⟩ := okF _ hf
    exact va_get hx hb hts (cls _ _ _ _ hc).1 hown hK hP i (xw_at hw) hc f.2.1 hkN (hts _ hlink) (fun _ h9 => h9) (by rw [List.getElem?_map, hv]; rfl) hd (go h hP hD hS hl)
  | putfield idx =>
    simp only [xgood, Bool.and_eq_true, decide_eq_true_eq] at hg
    obtain ⟨hd, hn, -⟩ := hg
    subst hn
    replace h := x1v_of h
    obtain ⟨v, r, rfl, h⟩ := h
    replace h := x1r_of h
    obtain ⟨i, r, rfl, h⟩ := h
    replace h := xlk_of h
    obtain ⟨f, hf, h⟩ := h
    replace h := xob_of h
    obtain ⟨fs, hw, hfit, h⟩ := h
    replace h := bif_t h
    obtain ⟨h1, h⟩ := h
    have h1 := Bool.and_eq_true_iff.mp h1
    obtain ⟨Cn, U, N, hc, hkN, hty, hfin, hlink⟩ := okF _ hf
    obtain ⟨cl1, cl2, ty0, cl3⟩ := cls _ _ _ _ hc
    have hft := xfit_of ad hfit
    refine va_put hx hb hts cl1 ty0 cl3 cl2 hown hK hP hD hS i (xw_at hw) hc f.2.1 hkN (hts _ hlink) (fun _ h9 => h9) (hfin h1.1) hty hft.1 hft.2 (by rw [List.length_map]; exact xblt h1.2) hd (fun H1 locs1 hP1 hD1 hS1 => ?_)
    have e0 : (ad i, (.inr (f.1, (fs.map (xv ad)).set f.2.1 (xv ad v)) : va_E)) = (ad i, xe tc ad (.inr (f.1, xu fs f.2.1 v))) := by
      rw [xu_eq]; simp [xe, List.map_set]
    rw [e0] at hP1 hD1
    exact go h (xw_setP hP1) (xw_setD hD1) hS1 hl
  | iaload =>
    simp only [xgood, Bool.and_eq_true, decide_eq_true_eq] at hg
    obtain ⟨hd, hn, -⟩ := hg
    subst hn
    replace h := x1i_of h
    obtain ⟨j, r, rfl, h⟩ := h
    replace h := x1r_of h
    obtain ⟨i, r, rfl, h⟩ := h
    replace h := xar_of h
    obtain ⟨n, a, hw, hin, h⟩ := h
    exact va_iald hx hb hK hP i 0 (xw_at hw) rfl hin hd (go h hP hD hS hl)
  | caload =>
    simp only [xgood, Bool.and_eq_true, decide_eq_true_eq] at hg
    obtain ⟨hd, hn, -⟩ := hg
    subst hn
    replace h := x1i_of h
    obtain ⟨j, r, rfl, h⟩ := h
    replace h := x1r_of h
    obtain ⟨i, r, rfl, h⟩ := h
    replace h := xar_of h
    obtain ⟨n, a, hw, hin, h⟩ := h
    exact va_cald hx hb hK hP i 1 (xw_at hw) rfl hin hd (go h hP hD hS hl)
  | baload =>
    simp only [xgood, Bool.and_eq_true, decide_eq_true_eq] at hg
    obtain ⟨hd, hn, -⟩ := hg
    subst hn
    replace h := x1i_of h
    obtain ⟨j, r, rfl, h⟩ := h
    replace h := x1r_of h
    obtain ⟨i, r, rfl, h⟩ := h
    replace h := xar_of h
    obtain ⟨n, a, hw, hin, h⟩ := h
    exact va_zald hx hb hK hP i 2 (xw_at hw) rfl hin hd (go h hP hD hS hl)
  | iastore =>
    simp only [xgood, Bool.and_eq_true, decide_eq_true_eq] at hg
    obtain ⟨hd, hn, -⟩ := hg
    subst hn
    replace h := x1i_of h
    obtain ⟨x, r, rfl, h⟩ := h
    replace h := x1i_of h
    obtain ⟨j, r, rfl, h⟩ := h
    replace h := x1r_of h
    obtain ⟨i, r, rfl, h⟩ := h
    replace h := xar_of h
    obtain ⟨n, a, hw, hin, h⟩ := h
    exact va_iast hx hb hK hP hD hS i 0 (xw_at hw) rfl hin hd (fun H1 locs1 hP1 hD1 hS1 => go h (xw_setP hP1) (xw_setD hD1) hS1 hl)
  | castore =>
    simp only [xgood, Bool.and_eq_true, decide_eq_true_eq] at hg
    obtain ⟨hd, hn, -⟩ := hg
    subst hn
    replace h := x1i_of h
    obtain ⟨x, r, rfl, h⟩ := h
    replace h := x1i_of h
    obtain ⟨j, r, rfl, h⟩ := h
    replace h := x1r_of h
    obtain ⟨i, r, rfl, h⟩ := h
    replace h := xar_of h
    obtain ⟨n, a, hw, hin, h⟩ := h
    exact va_cast hx hb hK hP hD hS i 1 (xw_at hw) rfl hin hd (fun H1 locs1 hP1 hD1 hS1 => go h (xw_setP hP1) (xw_setD hD1) hS1 hl)
  | bastore =>
    simp only [xgood, Bool.and_eq_true, decide_eq_true_eq] at hg
    obtain ⟨hd, hn, -⟩ := hg
    subst hn
    replace h := x1i_of h
    obtain ⟨x, r, rfl, h⟩ := h
    replace h := x1i_of h
    obtain ⟨j, r, rfl, h⟩ := h
    replace h := x1r_of h
    obtain ⟨i, r, rfl, h⟩ := h
    replace h := xar_of h
    obtain ⟨n, a, hw, hin, h⟩ := h
    exact va_zast hx hb hK hP hD hS i 2 (xw_at hw) rfl hin hd (fun H1 locs1 hP1 hD1 hS1 => go h (xw_setP hP1) (xw_setD hD1) hS1 hl)
  | arraylength =>
    simp only [xgood, Bool.and_eq_true, decide_eq_true_eq] at hg
    obtain ⟨hd, hn, -⟩ := hg
    subst hn
    replace h := x1r_of h
    obtain ⟨i, r, rfl, h⟩ := h
    replace h := xar_of h
    obtain ⟨n, a, hw, h⟩ := h
    exact va_alen hx hb hK hP i 0 (xw_at hw) (ty := .int) rfl rfl hd (go h hP hD hS hl)
  | invokestatic idx =>
    simp only [xgood, Bool.and_eq_true, decide_eq_true_eq] at hg
    obtain ⟨hd, hn, -⟩ := hg
    subst hn
    replace h := xlk_of h
    obtain ⟨qk, hq, h⟩ := h
    replace h := bif_f h
    obtain ⟨hst, h⟩ := h
    have hc := okC _ hq
    have hc6 := hc.2.2.2.2.2
    rw [hst] at hc6
    obtain ⟨hc6, hc99⟩ := hc6
    cases h99 : Nat.beq qk.2.2.2 99 with
    | true =>
      rw [h99] at h
      replace h := bif_t h
      obtain ⟨hd0, h⟩ := h
      replace h := x1i_of h
      obtain ⟨y, r, rfl, h⟩ := h
      replace h := x1i_of h
      obtain ⟨x, r, rfl, h⟩ := h
      replace h := bif_t h
      obtain ⟨h8, h⟩ := h
      have e99 := hc99 (Nat.eq_of_beq_eq_true h99)
      have hsum := xct_eq ad r
      have hd0 := xblt hd0
      have h8 := Nat.le_of_ble_eq_true h8
      obtain ⟨w1, w2, -, -, w5, -⟩ := hc
      rw [e99] at w1 w2 w5 hc6
      exact va_mmin (R := xR d) (rest := r.map (xv ad)) hx hb (hml.trans hl.1.symm) hown (hts _ w5) (hts _ hc6) (hts _ w2) (hts _ w1) hd0 (by rw [hsum]; show xct r + 13 ≤ 40 * d; omega) (Nat.zero_le _) (Nat.zero_le _) hd (go h hP hD hS hl)
    | false =>
    rw [h99] at h
    replace h := xtk_of _ _ _ _ h
    obtain ⟨as, r, rfl, hlen, h⟩ := h
    replace h := bif_t h
    obtain ⟨h8, h⟩ := h
    obtain ⟨d', v0, w', hd', hM, h⟩ := h
    rw [List.append_nil] at hM
    have hsum := xct_eq ad r
    refine xcall (A := A) (va_runS (As := as.map (xv ad)) (rest := r.map (xv ad)) ⟨hx, hb, hml, hown, hts⟩ (hM D tc ad H.size) ⟨xcb hts hc hd', hts _ hc6⟩ ⟨xblind, xpre hK hP hD⟩ rfl (by rw [List.length_map]; exact hlen) hl.1 (by simp) (lv_room (by rw [hsum]; exact Nat.le_of_ble_eq_true h8)) hd ⟨Nat.zero_le _, Nat.zero_le _⟩) hS (xfree hD hS hA) (fun v1 w1 H1 locs1 hR hP1 hD1 hS1 => ?_)
    obtain ⟨rfl, rfl⟩ := hR
    have e0 : (v1.map (xv ad)).toList ++ r.map (xv ad) = (v1.toList ++ r).map (xv ad) := by cases v1 <;> simp
    rw [e0]
    exact go h hP1 hD1 hS1 hl
  | invokevirtual idx =>
    simp only [xgood, Bool.and_eq_true, decide_eq_true_eq] at hg
    obtain ⟨hd, hn, -⟩ := hg
    subst hn
    replace h := xlk_of h
    obtain ⟨qk, hq, h⟩ := h
    replace h := bif_t h
    obtain ⟨hst, h⟩ := h
    replace h := xtk_of _ _ _ _ h
    obtain ⟨as, r, rfl, hlen, h⟩ := h
    replace h := x1r_of h
    obtain ⟨i, r, rfl, h⟩ := h
    replace h := bif_t h
    obtain ⟨h8, h⟩ := h
    replace h := xob_of h
    obtain ⟨fs, hw, h⟩ := h
    obtain ⟨d', v0, w', hd', hM, h⟩ := h
    rw [List.append_nil] at hM
    have hc := okC _ hq
    have hc6 := hc.2.2.2.2.2
    rw [hst] at hc6
    obtain ⟨hc7, hc8, U, N, hc9⟩ := hc6
    have hsum := xct_eq ad r
    refine xcall (A := A) (va_runV (As := as.map (xv ad)) (rest := r.map (xv ad)) (b := ad i) ⟨hx, hb, hml, hown, hts⟩ (hM D tc ad H.size) ⟨xcb hts hc hd', hts _ hc7, hts _ hc8⟩ ⟨xblind, va_recv hK hP hc9 (xw_at hw), xpre (as := .ref i :: as) hK hP hD⟩ rfl (by rw [List.length_map]; exact hlen) hl.1 (by simp [xv]) (lv_room (by rw [hsum]; exact Nat.le_of_ble_eq_true h8)) hd ⟨Nat.zero_le _, Nat.zero_le _⟩) hS (xfree hD hS hA) (fun v1 w1 H1 locs1 hR hP1 hD1 hS1 => ?_)
    obtain ⟨rfl, rfl⟩ := hR
    have e0 : (v1.map (xv ad)).toList ++ r.map (xv ad) = (v1.toList ++ r).map (xv ad) := by cases v1 <;> simp
    rw [e0]
    exact go h hP1 hD1 hS1 hl
  | ireturn =>
    simp only [xgood, Bool.and_eq_true, decide_eq_true_eq] at hg
    obtain ⟨hd, hn, -⟩ := hg
    replace h := x1i_of h
    obtain ⟨x, r, rfl, h⟩ := h
    cases r with
    | cons a r => exact h.elim
    | nil =>
      obtain ⟨h1, h⟩ := h
      obtain ⟨ty, e1, e2⟩ := xret_of h1
      exact W.zret hx hb (hr.trans e1) (xfit_of ad e2).1 (fun t ht hW => ⟨some (.int x), w, h, rfl, by rw [ht]; exact hP, hD, va_K.moved hW.alike hK, hS.F ht⟩) hS.2.2 hd hlk
  | areturn =>
    simp only [xgood, Bool.and_eq_true, decide_eq_true_eq] at hg
    obtain ⟨hd, hn, -⟩ := hg
    replace h := x1r_of h
    obtain ⟨x, r, rfl, h⟩ := h
    cases r with
    | cons a r => exact h.elim
    | nil =>
      obtain ⟨h1, h⟩ := h
      obtain ⟨ty, e1, e2⟩ := xret_of h1
      refine W.aret (v := .ref (ad x)) hx hb (hr.trans e1) ?_ (Or.inr ⟨_, rfl⟩) (fun t ht hW => ⟨some (.ref x), w, h, rfl, by rw [ht]; exact hP, hD, va_K.moved hW.alike hK, hS.F ht⟩) hS.2.2 hd hlk
      cases ty <;> first | exact Or.inl ⟨_, rfl⟩ | exact Or.inr ⟨_, rfl⟩ | exact e2.elim
  | return_ =>
    simp only [xgood, Bool.and_eq_true, decide_eq_true_eq] at hg
    obtain ⟨hd, hn, -⟩ := hg
    cases st with
    | cons a r => exact h.elim
    | nil =>
      obtain ⟨h1, h⟩ := h
      exact W.vret hx hb (hr.trans h1) (fun t ht hW => ⟨none, w, h, rfl, by rw [ht]; exact hP, hD, va_K.moved hW.alike hK, hS.F ht⟩) hS.2.2 hd hlk
  | _ => exact h.elim
theorem xb_sound {l : Launch} {d : Nat} {q : XI} {T : List (Nat × XE)} {F : List (Nat × XF)} {C : List (Nat × XK)} {Rt : Option Value → List va_E → Prop} {stop : List (Nat × List Nat)}
    (cls : XCls) (ok : XOk q T F C) : ∀ (n pc : Nat) (ls : List (Nat × Value)) (st : List Value) (w : List va_E), xb d q.2.2.1 T F C (xM l d) q.2.2.2 Rt stop (XW l d q Rt) n pc ls st w → XW l d q Rt pc ls st w
  | 0, pc, ls, st, w, h => h
  | n + 1, pc, ls, st, w, h => by
    rw [xb] at h
    split at h
    · exact xw_sub (fun q hq => xk_mem _ _ q hq) h
    · exact xs_sound cls ok (fun pc ls st w h => xb_sound cls ok n pc ls st w h) h
/-- go on from here, at least a step, up to the places of stop (with the locals that it names) -/
theorem xw_go {l : Launch} {d : Nat} {q : XI} {T : List (Nat × XE)} {F : List (Nat × XF)} {C : List (Nat × XK)} {Rt : Option Value → List va_E → Prop} {pc : Nat} {ls : List (Nat × Value)} {st : List Value} {w : List va_E}
    (cls : XCls) (ok : XOk q T F C) (n : Nat) (stop : List (Nat × List Nat)) (h : xs d q.2.2.1 T F C (xM l d) q.2.2.2 Rt (xb d q.2.2.1 T F C (xM l d) q.2.2.2 Rt stop (XW l d q Rt) n) pc ls st w) : XW l d q Rt pc ls st w :=
  xs_sound cls ok (fun pc ls st w h => xb_sound cls ok n pc ls st w h) h
