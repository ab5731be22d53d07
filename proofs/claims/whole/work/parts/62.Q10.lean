/-! The pure part: what both sides say of the places of a good text -/
def zT (c : Nat → Int32) (n : Nat) (Z : Sg) : Sg := fLd c (exF Z) (wyF Z) (owF Z) (us (us Z 0 2 1) 2 n 6) n
def uF (c : Nat → Int32) (Z : Sg) (p : Nat) : Nat := fOut c (exF Z) 6 (wyF Z p)
def vF (c : Nat → Int32) (Z : Sg) (p : Nat) : Nat := fOut c (exF Z) 6 (owF Z p)
def CT (c : Nat → Int32) (z y : Sg) (p : Nat) : Prop :=
  (z 2 p = 0 ∧ y 3 p = 0) ∨ WrC c z y p ∨ (z 2 p = 2 ∧ (y 3 p = 3 ∨ y 3 p = 4)) ∨ (z 2 p = 3 ∧ y 3 p = 5) ∨ (z 2 p = 4 ∧ y 3 p = 6) ∨ (AtC c z p ∧ y 3 p = 7 ∧ (c p = 37 → ¬ c (p + 1) = 46)) ∨ (z 2 p = 6 ∧ y 3 p = 8)
def Tab (c : Nat → Int32) (n : Nat) (z y : Sg) (u v : Nat → Nat) : Prop := ∀ p, p ≤ n → CT c z y p ∧ (z 2 p = 1 ∨ z 2 p = 2 ∨ z 2 p = 3 ∨ z 2 p = 5 → z 7 p = nI (u p) ∧ u p ≤ n ∧ ¬ z 2 (u p) = 0) ∧ (z 2 p = 5 → z 8 p = nI (v p) ∧ v p ≤ n ∧ ¬ z 2 (v p) = 0) ∧ (z 2 p = 2 → u p = p + 1)
theorem zT_s {c : Nat → Int32} {n : Nat} {Z : Sg} {e p : Nat} (h7 : ¬ e = 7) (h8 : ¬ e = 8) : zT c n Z e p = us (us Z 0 2 1) 2 n 6 e p := by
  unfold zT fLd
  rw [uc_n h8, uc_n h7]
theorem zT_2 {c : Nat → Int32} {n : Nat} {Z : Sg} {p : Nat} : zT c n Z 2 p = us Z 2 n 6 2 p := by
  rw [zT_s (by decide) (by decide)]
  by_cases h : p = n
  · rw [h, us_hit, us_hit]
  · rw [us_p h, us_p h, us_c (by decide)]
theorem zT_m {c : Nat → Int32} {n : Nat} {Z : Sg} {e p : Nat} (h7 : ¬ e = 7) (h8 : ¬ e = 8) (h2 : ¬ e = 2) (h0 : ¬ e = 0) : zT c n Z e p = Z e p := by
  rw [zT_s h7 h8, us_c h2, us_c h0]
theorem zT_7 {c : Nat → Int32} {n : Nat} {Z : Sg} {p : Nat} (hp : p < n) (h : ¬ Z 2 p = 0) : zT c n Z 7 p = nI (uF c Z p) := by
  unfold zT fLd
  rw [uc_n (by decide), uc_s, us_p (by omega), us_c (by decide), if_pos ⟨hp, h⟩]
  rfl
theorem zT_8 {c : Nat → Int32} {n : Nat} {Z : Sg} {p : Nat} (hp : p < n) (h : Z 2 p = 5) : zT c n Z 8 p = nI (vF c Z p) := by
  unfold zT fLd
  rw [uc_s, us_p (by omega), us_c (by decide), if_pos ⟨hp, h⟩]
  rfl
theorem con_ct {c : Nat → Int32} {n : Nat} {Z Y : Sg} {p : Nat} (hp : p < n) (hd : Z 2 p = 5 → c p = 37 → ¬ c (p + 1) = 46) (h : Con c Z Y p) : CT c (zT c n Z) (us Y 3 n 8) p := by
  have e2 : zT c n Z 2 p = Z 2 p := by rw [zT_2, us_p (by omega)]
  have e3 : zT c n Z 3 p = Z 3 p := zT_m (by decide) (by decide) (by decide) (by decide)
  have e4 : zT c n Z 4 p = Z 4 p := zT_m (by decide) (by decide) (by decide) (by decide)
  have e5 : zT c n Z 5 p = Z 5 p := zT_m (by decide) (by decide) (by decide) (by decide)
  have e6 : zT c n Z 6 p = Z 6 p := zT_m (by decide) (by decide) (by decide) (by decide)
  have y3 : us Y 3 n 8 3 p = Y 3 p := us_p (by omega)
  unfold CT WrC AtC
  rw [e2, e3, e4, e5, e6, y3]
  rcases h with h | h | h | h | h | h
  · exact Or.inl h
  · exact Or.inr (Or.inl h)
  · refine Or.inr (Or.inr (Or.inl ⟨h.1, ?_⟩))
    rcases h.2.2 with q | q
    · exact Or.inl q.2
    · exact Or.inr q.2
  · exact Or.inr (Or.inr (Or.inr (Or.inl ⟨h.1, h.2.2⟩)))
  · exact Or.inr (Or.inr (Or.inr (Or.inr (Or.inl ⟨h.1, h.2.2.1⟩))))
  · exact Or.inr (Or.inr (Or.inr (Or.inr (Or.inr (Or.inl ⟨h.1, h.2.1, hd h.1.1⟩)))))
section Tables2
variable {c : Nat → Int32} {n : Nat} {Z Y : Sg} {dp : Nat → Nat}
theorem Cm_end {c : Nat → Int32} : ∀ (f a o q j : Nat), Ch c f a o → Cm c f a q → aEnd c q = some j → c j = 38 ∨ c j = 124 ∨ c j = 123
  | 0, _, _, _, _, h, _, _ => h.elim
  | f + 1, a, o, q, j, ⟨j1, h1, h2⟩, hm, he => by
    rcases hm with rfl | ⟨j', h5, h6, h7⟩
    · have e : j1 = j := Option.some.inj (h1.symm.trans he)
      subst e
      rcases h2 with ⟨h8, h9⟩ | ⟨h8 | h8, h9⟩
      · rw [h8]; exact Or.inr (Or.inr h9)
      · exact Or.inl h8
      · exact Or.inr (Or.inl h8)
    · have e : j' = j1 := Option.some.inj (h5.symm.trans h1)
      subst e
      rcases h2 with ⟨h8, h9⟩ | ⟨h8, h9⟩
      · rw [h8, h9] at h6; exact absurd h6 (by decide)
      · exact Cm_end f (j' + 1) o q j h9 h7 he
theorem atm_dot (I : Inv c n n Z Y [] dp) {p : Nat} (hp : p < n) (h5 : Z 2 p = 5) (h37 : c p = 37) : ¬ c (p + 1) = 46 := by
  rcases I.2.2.2.2.2.2.2.2.2 p hp h5 with ⟨fr, w, -⟩ | ⟨h, o, e, f, -, H, b3, b4, -⟩
  · cases w
  · have ha : aEnd c p = some (p + 1) := by unfold aEnd; rw [if_pos h37]
    rcases Cm_end 64 (h + 1) o p (p + 1) H.2.2.2.1 b4 ha with q | q | q <;> rw [q] <;> decide
theorem tab_ok (I : Inv c n n Z Y [] dp) (hn : n ≤ 64) (hc : ∀ i, n ≤ i → c i = 0) : Tab c n (zT c n Z) (us Y 3 n 8) (uF c Z) (vF c Z) := by
  intro p hp
  by_cases hpn : p = n
  · have e6 : zT c n Z 2 p = 6 := by rw [hpn, zT_2, us_hit]
    rw [e6]
    refine ⟨Or.inr (Or.inr (Or.inr (Or.inr (Or.inr (Or.inr ⟨e6, ?_⟩))))), (fun q => absurd q (by decide)), (fun q => absurd q (by decide)), (fun q => absurd q (by decide))⟩
    rw [hpn, us_hit]
  · have hlt : p < n := by omega
    have e2 : zT c n Z 2 p = Z 2 p := by rw [zT_2, us_p (by omega)]
    rw [e2]
    have hway : ∀ q, ¬ Z 2 p = 0 → Z 7 p = nI q → q < 900 → Land c n Z q → uF c Z p = fOut c (exF Z) 6 q := fun q _ h1 h2 _ => by
      unfold uF wyF; rw [h1, cl_nI (by omega)]
    refine ⟨con_ct hlt (atm_dot I hlt) (I.2.2.2.2.1 p hlt), (fun h => ?_), (fun h => ?_), (fun h => ?_)⟩
    · have h0 : ¬ Z 2 p = 0 := by rcases h with h | h | h | h <;> rw [h] <;> decide
      have h4 : ¬ Z 2 p = 4 := by rcases h with h | h | h | h <;> rw [h] <;> decide
      obtain ⟨q, q1, q2, q3, q4⟩ := way_ok I hn hc hlt h0
      have w := out_6 I hn hc (q3 h4)
      rw [zT_2, hway q h0 q1 q2 (q3 h4)]
      refine ⟨?_, w.2.1, w.2.2⟩
      rw [zT_7 hlt h0, hway q h0 q1 q2 (q3 h4)]
    · obtain ⟨T, F, h1, h2, h3, h4, -⟩ := atm_ways I hn hc hlt h
      have hL : Land c n Z (if c p = 126 then T else F) := by split; exact h1; exact h2
      have e : vF c Z p = fOut c (exF Z) 6 (if c p = 126 then T else F) := by
        unfold vF owF; rw [h4, cl_nI (by have := hL.1; omega)]
      have w := out_6 I hn hc hL
      rw [zT_8 hlt h, zT_2, e]
      exact ⟨rfl, w.2.1, w.2.2⟩
    · have h0 : ¬ Z 2 p = 0 := by rw [h]; decide
      obtain ⟨q, q1, q2, q3, q4⟩ := way_ok I hn hc hlt h0
      have h7 := I.2.2.2.2.2.2.1 p hlt h
      rw [hway q h0 q1 q2 (q3 (by rw [h]; decide)), q4 h]
      exact out_atm I hn (by omega) h7.1
/-- the reference's ways -/
theorem mpr_ok (I : Inv c n n Z Y [] dp) (hn : n ≤ 64) (hc : ∀ i, n ≤ i → c i = 0) : MPr (us Y 3 n 8) c n (uF c Z) (uF c Z) (vF c Z) := by
  intro p hp
  have T := tab_ok I hn hc p hp
  by_cases hpn : p = n
  · have e8 : us Y 3 n 8 3 p = 8 := by rw [hpn, us_hit]
    rw [e8]
    exact ⟨(fun q => absurd q (by decide)), (fun q => absurd q (by decide)), (fun q => absurd q (by decide)), (fun q => absurd q (by decide)), 8, by decide, by decide⟩
  · have hlt : p < n := by omega
    have e2 : zT c n Z 2 p = Z 2 p := by rw [zT_2, us_p (by omega)]
    have y3 : us Y 3 n 8 3 p = Y 3 p := us_p (by omega)
    have C := I.2.2.2.2.1 p hlt
    rw [y3]
    refine ⟨(fun h => ?_), (fun h => ?_), (fun h => ?_), (fun h => ?_), ?_⟩
    · have h5 : Z 2 p = 5 := by
        rcases C with q | q | q | q | q | q
        · rw [q.2] at h; exact absurd h (by decide)
        · rw [q.2.2.2.1] at h; split at h <;> exact absurd h (by decide)
        · rcases q.2.2 with ⟨_, q⟩ | ⟨_, q⟩ <;> rw [q] at h <;> exact absurd h (by decide)
        · rw [q.2.2] at h; exact absurd h (by decide)
        · rw [q.2.2.1] at h; exact absurd h (by decide)
        · exact q.1.1
      have hU := (T.2.1 (by rw [e2, h5]; decide)).2.1
      have hV := (T.2.2.1 (by rw [e2, h5])).2.1
      obtain ⟨T', F, h1, h2, h3, h4, t1, t2⟩ := atm_ways I hn hc hlt h5
      have h65 := h1.1
      have h66 := h2.1
      by_cases h126 : c p = 126
      · rw [if_pos h126] at h3 h4
        have eu : uF c Z p = fOut c (exF Z) 6 F := by unfold uF wyF; rw [h3, cl_nI (by omega)]
        have ev : vF c Z p = fOut c (exF Z) 6 T' := by unfold vF owF; rw [h4, cl_nI (by omega)]
        have d1 : decide (¬ c p = 126) = false := decide_eq_false (fun q => q h126)
        have d2 : decide (c p = 126) = true := decide_eq_true h126
        rw [d1, d2]
        refine ⟨?_, ?_, hU, hV⟩
        · rw [eu]; exact t2
        · rw [ev]; exact t1
      · rw [if_neg h126] at h3 h4
        have eu : uF c Z p = fOut c (exF Z) 6 T' := by unfold uF wyF; rw [h3, cl_nI (by omega)]
        have ev : vF c Z p = fOut c (exF Z) 6 F := by unfold vF owF; rw [h4, cl_nI (by omega)]
        have d1 : decide (¬ c p = 126) = true := decide_eq_true h126
        have d2 : decide (c p = 126) = false := decide_eq_false h126
        rw [d1, d2]
        refine ⟨?_, ?_, hU, hV⟩
        · rw [eu]; exact t1
        · rw [ev]; exact t2
    · have h5 : Z 2 p = 2 := by
        rcases C with q | q | q | q | q | q
        · rw [q.2] at h; exact absurd h (by decide)
        · rw [q.2.2.2.1] at h; split at h <;> exact absurd h (by decide)
        · exact q.1
        · rw [q.2.2] at h; exact absurd h (by decide)
        · rw [q.2.2.1] at h; exact absurd h (by decide)
        · rw [q.2.1] at h; exact absurd h (by decide)
      have := (I.2.2.2.2.2.2.1 p hlt h5).2
      omega
    · have h5 : Z 2 p = 1 ∨ Z 2 p = 3 := by
        rcases C with q | q | q | q | q | q
        · rw [q.2] at h; exact absurd h (by decide)
        · exact Or.inl q.1
        · rcases q.2.2 with ⟨_, q⟩ | ⟨_, q⟩ <;> rw [q] at h <;> exact absurd h (by decide)
        · exact Or.inr q.1
        · rw [q.2.2.1] at h; exact absurd h (by decide)
        · rw [q.2.1] at h; exact absurd h (by decide)
      obtain ⟨q, q1, q2, q3⟩ := I.2.2.2.2.2.1 p hlt h5
      have w := out_6 I hn hc q3
      have eu : uF c Z p = fOut c (exF Z) 6 q := by unfold uF wyF; rw [q1, cl_nI (by have := q3.1; omega)]
      rw [eu]
      exact ⟨q, by rw [us_c (by decide)]; exact q2, w.1, w.2.1⟩
    · rcases C with q | q | q | q | q | q
      · rw [q.2] at h; exact absurd h (by decide)
      · exact lc_in q.2.2.1
      · rcases q.2.2 with ⟨_, q⟩ | ⟨_, q⟩ <;> rw [q] at h <;> exact absurd h (by decide)
      · rw [q.2.2] at h; exact absurd h (by decide)
      · rw [q.2.2.1] at h; exact absurd h (by decide)
      · rw [q.2.1] at h; exact absurd h (by decide)
    · rcases C with q | q | q | q | q | q
      · exact ⟨0, by decide, q.2⟩
      · rw [q.2.2.2.1]; split
        · exact ⟨1, by decide, rfl⟩
        · exact ⟨2, by decide, rfl⟩
      · rcases q.2.2 with ⟨_, q⟩ | ⟨_, q⟩
        · exact ⟨3, by decide, q⟩
        · exact ⟨4, by decide, q⟩
      · exact ⟨5, by decide, q.2.2⟩
      · exact ⟨6, by decide, q.2.2.1⟩
      · exact ⟨7, by decide, q.2.1⟩
end Tables2
section TabUse
variable {c : Nat → Int32} {n : Nat} {z y : Sg} {u v : Nat → Nat}
theorem tab_kpr (T : Tab c n z y u v) (hn : n ≤ 64) : KPr z n u v := fun p hp => ⟨fun h => ⟨((T p hp).2.1 h).1, by have := ((T p hp).2.1 h).2.1; omega⟩, fun h => ⟨((T p hp).2.2.1 h).1, by have := ((T p hp).2.2.1 h).2.1; omega⟩⟩
theorem tab_kn (T : Tab c n z y u v) : KN z n u v := fun p hp => ⟨fun h => ((T p hp).2.1 h).2.1, fun h => ((T p hp).2.2.1 h).2.1⟩
def loF (z : Sg) (p : Nat) : Nat := (z 3 p).toNatClampNeg
def soF (z : Sg) (p : Nat) : Nat := (z 6 p).toNatClampNeg
theorem lc_lo {x w : Int32} (h : lcP x) (e : w = x - 97) : w = nI w.toNatClampNeg ∧ w.toNatClampNeg < 5 := by
  obtain ⟨j, h1, h2⟩ := lcP_nat h
  rw [e, h2, cl_nI (by omega)]
  exact ⟨rfl, h1⟩
/-- a value: what it names -/
theorem val_lc {i : Nat} (h1 : ¬ fVal c i = -1) (h3 : ¬ fVal c i = 3) (h4 : ¬ fVal c i = 4) (h5 : ¬ fVal c i = 5) : lcP (c i) ∧ fVal c i = fPart c i := by
  unfold fVal at *
  by_cases a1 : c i = 110
  · rw [if_pos a1] at h3; exact absurd rfl h3
  rw [if_neg a1] at h1 h3 h4 h5 ⊢
  by_cases a2 : c i = 78
  · rw [if_pos a2] at h4; exact absurd rfl h4
  rw [if_neg a2] at h1 h3 h4 h5 ⊢
  by_cases a3 : c i = 64
  · rw [if_pos a3] at h5; exact absurd rfl h5
  rw [if_neg a3] at h1 h3 h4 h5 ⊢
  exact ⟨(mE_some h1).2.1, rfl⟩
theorem tab_rpr (T : Tab c n z y u v) : RPr z n (loF z) (soF z) := by
  intro p hp
  refine ⟨fun h => ?_, fun h h6 => ?_⟩
  · rcases (T p hp).1 with q | q | q | q | q | q | q
    · rw [q.1] at h; exact absurd h (by decide)
    · obtain ⟨-, q2, q3, q4, q5, q6, q7, q8, q9⟩ := q
      have w := lc_lo q3 q5
      refine ⟨w.1, w.2, fun a3 a4 a5 => ?_⟩
      rw [q7] at a3 a4 a5
      have w1 := (val_lc q9 a3 a4 a5).1
      exact lc_lo w1 (q8.trans (lcI_lc w1).1)
    · rw [q.1] at h; exact absurd h (by decide)
    · rw [q.1] at h; exact absurd h (by decide)
    · rw [q.1] at h; exact absurd h (by decide)
    · rw [q.1.1] at h; exact absurd h (by decide)
    · rw [q.1] at h; exact absurd h (by decide)
  · rcases (T p hp).1 with q | q | q | q | q | q | q
    · rw [q.1] at h; exact absurd h (by decide)
    · rw [q.1] at h; exact absurd h (by decide)
    · rw [q.1] at h; exact absurd h (by decide)
    · rw [q.1] at h; exact absurd h (by decide)
    · rw [q.1] at h; exact absurd h (by decide)
    · rcases q.1.2 with w | ⟨-, -, w3, w4, -⟩
      · exact absurd w.2 h6
      · exact lc_lo w3 w4
    · rw [q.1] at h; exact absurd h (by decide)
theorem ct_0 {p : Nat} (h : CT c z y p) : z 2 p = 0 ↔ ¬ 0 < y 3 p := by
  rcases h with q | q | q | q | q | q | q
  · rw [q.1, q.2]; decide
  · rw [q.1, q.2.2.2.1]; split <;> decide
  · rcases q.2 with w | w <;> rw [q.1, w] <;> decide
  · rw [q.1, q.2]; decide
  · rw [q.1, q.2]; decide
  · rw [q.1.1, q.2.1]; decide
  · rw [q.1, q.2]; decide
theorem tab_nm (T : Tab c n z y u v) : ∀ p, p ≤ n → y 3 p = 2 → vp_in (c p - 97) 5 := by
  intro p hp h
  rcases (T p hp).1 with q | q | q | q | q | q | q
  · rw [q.2] at h; exact absurd h (by decide)
  · exact lc_in q.2.2.1
  · rcases q.2 with w | w <;> rw [w] at h <;> exact absurd h (by decide)
  · rw [q.2] at h; exact absurd h (by decide)
  · rw [q.2] at h; exact absurd h (by decide)
  · rw [q.2.1] at h; exact absurd h (by decide)
  · rw [q.2] at h; exact absurd h (by decide)
end TabUse
theorem mpr_c {c : Nat → Int32} {n : Nat} {y y' : Sg} {w u v : Nat → Nat} (h3 : y' 3 = y 3) (h4 : y' 4 = y 4) (h5 : y' 5 = y 5) (h6 : y' 6 = y 6) (h7 : y' 7 = y 7) (h : MPr y c n w u v) : MPr y' c n w u v := by
  unfold MPr at h ⊢
  rw [h3, h4, h5, h6, h7]; exact h
theorem tab_c {c : Nat → Int32} {n : Nat} {z y y' : Sg} {u v : Nat → Nat} (h3 : y' 3 = y 3) (h : Tab c n z y u v) : Tab c n z y' u v := by
  unfold Tab CT WrC at h ⊢
  rw [h3]; exact h
