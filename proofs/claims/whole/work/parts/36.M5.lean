/-! The reference: where ways go, joins -/
/-- from a on, at most f steps: the place where one comes -/
def Go (ro ow bh : Nat → Int32) (n : Nat) : Nat → Nat → Nat → Prop
  | 0, _, _ => False
  | f + 1, a, r => a ≤ n ∧ ((0 < ro a ∧ r = a) ∨ (¬ 0 < ro a ∧ ∃ p, p < 65 ∧ ow a = nI p ∧ ((ro p = 4 ∧ r = p + 1) ∨ (¬ ro p = 4 ∧ ∃ q, bh p = nI q ∧ Go ro ow bh n f q r))))
section
variable (l : Launch) (y : Sg) (b : Int64) {t : Nat → Int32} {n : Nat}
set_option maxRecDepth 100000 in
set_option maxHeartbeats 1000000 in
theorem lp_M_goes (hn : n ≤ 64) : ∀ (f a r : Nat), f ≤ 65 → Go (y 3) (y 4) (y 7) n f a r → XW l 0 q_M_goes (fun u w => u = some (.int (nI r)) ∧ w = vM y b) 4 [(0, .ref 0), (2, .int (nI a)), (3, .int (nI (65 - f)))] [] (vM y b)
  | 0, a, r, hf, h => h.elim
  | f + 1, a, r, hf, h => by
    obtain ⟨ha, h⟩ := h
    refine xw_go xcls ok_M_goes 60 [(4, [0, 2, 3])] ?_
    refine And.intro (fun q => absurd q (by rw [show (65 : Int32) = nI 65 from rfl, nI_le' (by omega) (by omega)]; omega)) (fun q => ?_)
    refine And.intro (in_nI (by omega) (by omega)) ?_
    rw [cl_nI (by omega)]
    rcases h with ⟨h1, rfl⟩ | ⟨h1, p, hp, e4, h⟩
    · refine And.intro (fun q => absurd h1 (Int32.not_lt.mpr q)) (fun q => ?_)
      exact And.intro trivial ⟨rfl, rfl⟩
    · refine And.intro (fun q => ?_) (fun q => absurd (Int32.not_lt.mp h1) q)
      refine And.intro (in_nI (by omega) (by omega)) ?_
      rw [cl_nI (by omega), e4]
      refine And.intro (in_nI (by omega) (by omega)) ?_
      rw [cl_nI (by omega)]
      rcases h with ⟨h2, rfl⟩ | ⟨h2, q2, e7, h⟩
      · refine And.intro (fun q => absurd h2 q) (fun q => ?_)
        exact And.intro trivial ⟨by rw [nI_p1], rfl⟩
      · refine And.intro (fun q => ?_) (fun q => absurd q h2)
        refine And.intro (in_nI (by omega) (by omega)) ?_
        rw [cl_nI (by omega), e7]
        have ih := lp_M_goes hn f q2 r (by omega) h
        rw [show nI (65 - f) = nI (65 - (f + 1)) + 1 by rw [nI_p1]; congr 1; omega] at ih
        exact ih
set_option maxRecDepth 100000 in
set_option maxHeartbeats 1000000 in
theorem c_M_goes (hn : n ≤ 64) (a r : Nat) (h : Go (y 3) (y 4) (y 7) n 65 a r) {x : Int32} (hx : x = nI a := by rfl) : XMet l 0 q_M_goes [.ref 0, .int x] (vM y b) (some (.int (nI r))) (vM y b) := by
  subst hx
  refine xm_intro (by decide +kernel) (Nat.le_of_ble_eq_true rfl) ?_
  refine xw_go xcls ok_M_goes 60 [(4, [0, 2, 3])] ?_
  exact lp_M_goes l y b hn 65 a r (by omega) h
/-- over atoms joined by &, to the last one's end -/
def Fs (c : Nat → Int32) : Nat → Nat → Nat → Prop
  | 0, j, r => r = j ∧ ¬ c j = 38
  | f + 1, j, r => (¬ c j = 38 ∧ r = j) ∨ (c j = 38 ∧ ∃ q, mAtm c (j + 1) = some q ∧ Fs c f q r)
/-- where an atom leads to -/
def Tr (c : Nat → Int32) (ro ow bo ot bh : Nat → Int32) (n p : Nat) (yes : Bool) (r : Nat) : Prop :=
  ∃ j o, mAtm c p = some j ∧ ow p = nI o ∧ o < 65 ∧ (match yes with
    | true => (c j = 38 ∧ r = j + 1) ∨ (¬ c j = 38 ∧ ∃ q, bo o = nI q ∧ Go ro ow bh n 65 q r)
    | false => ∃ k, Fs c 64 j k ∧ k < 900 ∧ ((c k = 124 ∧ r = k + 1) ∨ (¬ c k = 124 ∧ ((ro o = 3 ∧ 0 < ot o ∧ ∃ q, ot o = nI q ∧ Go ro ow bh n 65 q r) ∨ (¬ (ro o = 3 ∧ 0 < ot o) ∧ ∃ q, bh o = nI q ∧ Go ro ow bh n 65 q r)))))
set_option maxRecDepth 100000 in
set_option maxHeartbeats 1000000 in
theorem lp_M_turn (hp : MT y t n) (o : Nat) (Rt : Option Value → List va_E → Prop) (k : Nat) (K : XW l 3 q_M_turn Rt 80 [(0, .ref 0), (3, .int (nI k)), (4, .int (nI o))] [] (vM y b)) : ∀ (f j : Nat), f ≤ 64 → j < 700 → Fs (chr t n) f j k → XW l 3 q_M_turn Rt 49 [(0, .ref 0), (3, .int (nI j)), (4, .int (nI o)), (5, .int (nI (64 - f)))] [] (vM y b)
  | 0, j, hf, hj, h => by
    obtain ⟨rfl, h⟩ := h
    refine xw_go xcls ok_M_turn 60 [(80, [0, 3, 4])] ?_
    refine And.intro (fun q => K) (fun q => absurd (by decide) q)
  | f + 1, j, hf, hj, h => by
    have hn := hp.2.1
    refine xw_go xcls ok_M_turn 60 [(80, [0, 3, 4]), (49, [0, 3, 4, 5])] ?_
    refine And.intro (fun q => absurd q (by rw [show (64 : Int32) = nI 64 from rfl, nI_le' (by omega) (by omega)]; omega)) (fun q => ?_)
    refine ⟨0, _, _, by decide, c_M_at l y b j hp (by omega), ?_⟩
    rcases h with ⟨h, rfl⟩ | ⟨h, q2, e, h3⟩
    · refine And.intro (fun q => K) (fun q => absurd q h)
    · refine And.intro (fun q => absurd h q) (fun q => ?_)
      have hjn := chr_lt h (by decide)
      have hl := mAtm_le e
      have cm := c_M_atom l y b (j + 1) hp (by omega) (nI_p1 j)
      rw [e] at cm
      refine ⟨2, _, _, by decide, cm, ?_⟩
      have ih := lp_M_turn hp o Rt k K f q2 (by omega) (by omega) h3
      rw [show nI (64 - f) = nI (64 - (f + 1)) + 1 by rw [nI_p1]; congr 1; omega] at ih
      exact ih
set_option maxRecDepth 100000 in
set_option maxHeartbeats 1000000 in
theorem c_M_turn (hp : MT y t n) (p r : Nat) (hpn : p ≤ n) (yes : Bool) (h : Tr (chr t n) (y 3) (y 4) (y 5) (y 6) (y 7) n p yes r) {v : Int32} (hv : v = b01 yes := by rfl) : XMet l 3 q_M_turn [.ref 0, .int (nI p), .int v] (vM y b) (some (.int (nI r))) (vM y b) := by
  subst hv
  have hn := hp.2.1
  obtain ⟨j, o, e1, e2, ho, h⟩ := h
  have hl := mAtm_le e1
  have cm := c_M_atom l y b p hp (by omega)
  rw [e1] at cm
  refine xm_intro (by decide +kernel) (Nat.le_of_ble_eq_true rfl) ?_
  refine xw_go xcls ok_M_turn 60 [(49, [0, 3, 4, 5])] ?_
  refine ⟨2, _, _, by decide, cm, ?_⟩
  refine And.intro (in_nI (by omega) (by omega)) ?_
  rw [cl_nI (by omega), e2]
  cases yes with
  | true =>
    refine And.intro (fun q => absurd q (by decide)) (fun _ => ?_)
    refine ⟨0, _, _, by decide, c_M_at l y b j hp (by omega), ?_⟩
    rcases h with ⟨h, rfl⟩ | ⟨h, q2, e5, hg⟩
    · refine And.intro (fun q => absurd h q) (fun q => ?_)
      exact And.intro trivial ⟨congrArg (fun x => some (Value.int x)) (nI_p1 j), rfl⟩
    · refine And.intro (fun q => ?_) (fun q => absurd q h)
      refine And.intro (in_nI (by omega) (by omega)) ?_
      rw [cl_nI (by omega)]
      refine ⟨0, _, _, by decide, c_M_goes l y b hn q2 r hg e5, ?_⟩
      exact And.intro trivial ⟨rfl, rfl⟩
  | false =>
    refine And.intro (fun _ => ?_) (fun q => absurd rfl q)
    obtain ⟨k, hfs, hk, h⟩ := h
    refine lp_M_turn l y b hp o _ k ?_ 64 j (by omega) (by omega) hfs
    refine xw_go xcls ok_M_turn 60 [(126, [0, 4])] ?_
    refine ⟨0, _, _, by decide, c_M_at l y b k hp (by omega), ?_⟩
    rcases h with ⟨h, rfl⟩ | ⟨h, h2⟩
    · refine And.intro (fun q => absurd h q) (fun q => ?_)
      exact And.intro trivial ⟨by rw [nI_p1], rfl⟩
    · refine And.intro (fun q => ?_) (fun q => absurd q h)
      refine And.intro (in_nI (by omega) (by omega)) ?_
      rw [cl_nI (by omega)]
      rcases h2 with ⟨g1, g2, q2, e6, h2⟩ | ⟨g, q2, e7, h2⟩
      · refine And.intro (fun q => absurd g1 q) (fun q => ?_)
        refine And.intro (in_nI (by omega) (by omega)) ?_
        rw [cl_nI (by omega)]
        refine And.intro (fun q => absurd g2 (Int32.not_lt.mpr q)) (fun q => ?_)
        refine And.intro (in_nI (by omega) (by omega)) ?_
        rw [cl_nI (by omega)]
        refine ⟨0, _, _, by decide, c_M_goes l y b hn q2 r h2 e6, ?_⟩
        exact And.intro trivial ⟨rfl, rfl⟩
      · have j126 : XW l 3 q_M_turn (fun u w => u = some (.int (nI r)) ∧ w = vM y b) 126 [(0, .ref 0), (4, .int (nI o))] [.ref 0] (vM y b) := by
          refine xw_go xcls ok_M_turn 60 [] ?_
          refine And.intro (in_nI (by omega) (by omega)) ?_
          rw [cl_nI (by omega)]
          refine ⟨0, _, _, by decide, c_M_goes l y b hn q2 r h2 e7, ?_⟩
          exact And.intro trivial ⟨rfl, rfl⟩
        refine And.intro (fun q => j126) (fun q => ?_)
        refine And.intro (in_nI (by omega) (by omega)) ?_
        rw [cl_nI (by omega)]
        refine And.intro (fun q3 => j126) (fun q3 => ?_)
        exact absurd ⟨q, Int32.not_le.mp q3⟩ g
end
