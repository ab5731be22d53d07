/-! The pure part: conditions in lockstep; ways of atoms -/
theorem us_e (z : Sg) (c j : Nat) (x : Int32) (a p : Nat) : us z c j x a p = if a = c ∧ p = j then x else z a p := by
  unfold us
  by_cases h : a = c
  · subst h
    rw [if_pos rfl]
    by_cases h2 : p = j
    · subst h2; rw [if_pos ⟨rfl, rfl⟩]; simp [upd]
    · rw [if_neg (fun q => h2 q.2)]; simp [upd, h2]
  · rw [if_neg h, if_neg (fun q => h q.1)]
theorem us_hit {z : Sg} {c j : Nat} {x : Int32} : us z c j x c j = x := by rw [us_e, if_pos ⟨rfl, rfl⟩]
theorem us_p {z : Sg} {c j a p : Nat} {x : Int32} (h : ¬ p = j) : us z c j x a p = z a p := by rw [us_e, if_neg (fun q => h q.2)]
theorem us_c {z : Sg} {c j a p : Nat} {x : Int32} (h : ¬ a = c) : us z c j x a p = z a p := by rw [us_e, if_neg (fun q => h q.1)]
def AtC (c : Nat → Int32) (z : Sg) (p : Nat) : Prop := z 2 p = 5 ∧ ((c p = 37 ∧ z 4 p = 6) ∨ (¬ c p = 37 ∧ ¬ fPart c (aNm c p) = -1 ∧ lcP (c (aNm c p)) ∧ z 3 p = c (aNm c p) - 97 ∧ z 4 p = fPart c (aNm c p)))
theorem AtC.mono {c : Nat → Int32} {z z' : Sg} {p : Nat} (h : AtC c z p) (h2 : z' 2 p = z 2 p) (h3 : z' 3 p = z 3 p) (h4 : z' 4 p = z 4 p) : AtC c z' p := by
  unfold AtC at h ⊢
  rw [h2, h3, h4]; exact h
theorem aZ_eff {c : Nat → Int32} {z : Sg} {a j : Nat} (h : aEnd c a = some j) : AtC c (aZ c z a) a ∧ (∀ e p, ¬ p = a → aZ c z a e p = z e p) ∧ (∀ e p, ¬ (e = 2 ∨ e = 3 ∨ e = 4) → aZ c z a e p = z e p) := by
  obtain ⟨-, -, -, h1⟩ := atm_some h
  unfold aZ
  rcases h1 with ⟨h1, -⟩ | ⟨h1, h2, h3, -⟩
  · rw [if_pos h1]
    refine ⟨⟨by rw [us_c (by decide), us_hit], Or.inl ⟨h1, us_hit⟩⟩, fun e p hp => by rw [us_p hp, us_p hp], fun e p he => ?_⟩
    rw [us_c (fun q => he (Or.inr (Or.inr q))), us_c (fun q => he (Or.inl q))]
  · rw [if_neg h1, if_neg h2]
    refine ⟨⟨by rw [us_c (by decide), us_c (by decide), us_hit], Or.inr ⟨h1, h2, h3, by rw [us_c (by decide), us_hit, (lcI_lc h3).1], us_hit⟩⟩, fun e p hp => by rw [us_p hp, us_p hp, us_p hp], fun e p he => ?_⟩
    rw [us_c (fun q => he (Or.inr (Or.inr q))), us_c (fun q => he (Or.inr (Or.inl q))), us_c (fun q => he (Or.inl q))]
def CdE (c : Nat → Int32) (h f a : Nat) (z y z' y' : Sg) : Prop := ∀ p, (Cm c f a p → AtC c z' p ∧ y' 3 p = 7 ∧ y' 4 p = nI h) ∧ (¬ Cm c f a p → (∀ e, z' e p = z e p) ∧ (∀ e, y' e p = y e p)) ∧ (∀ e, ¬ (e = 2 ∨ e = 3 ∨ e = 4) → z' e p = z e p) ∧ (∀ e, ¬ (e = 3 ∨ e = 4) → y' e p = y e p)
theorem mCd_none {c : Nat → Int32} {h g a : Nat} {y : Sg} (ha : mAtm c a = none ∨ ∃ j, mAtm c a = some j ∧ ¬ (c j = 38 ∨ c j = 124) ∧ ¬ c j = 123) : (mCd c h g y a).1 = none := by
  cases g with
  | zero => rfl
  | succ g =>
    rcases ha with ha | ⟨j, ha, h1, h2⟩
    · simp only [mCd, ha]
    · simp only [mCd, ha, if_neg h1, if_neg h2]
theorem aEnd_0 {c : Nat → Int32} {a : Nat} (h : c a = 0) : aEnd c a = none := by
  unfold aEnd
  rw [h, if_neg (by decide)]
  have e : aNm c a = a := by unfold aNm; rw [h, if_neg (by decide)]
  rw [e]
  have : fPart c a = -1 := by unfold fPart; rw [h, if_pos (by decide)]
  rw [if_pos this]
theorem cd_lock {c : Nat → Int32} {n : Nat} (hc : ∀ i, n ≤ i → c i = 0) (h : Nat) : ∀ (f g a : Nat) (z y : Sg), n ≤ a + f → n < a + g →
    (∃ o, (fCL c f (aZ c z a) (aEnd c a)).1 = some o ∧ (mCd c h g y a).1 = some (o + 1) ∧ Ch c f a o ∧ CdE c h f a z y (fCL c f (aZ c z a) (aEnd c a)).2 (mCd c h g y a).2) ∨
    ((∀ o, (fCL c f (aZ c z a) (aEnd c a)).1 = some o → ¬ c o = 123) ∧ (mCd c h g y a).1 = none) := by
  have hnone : ∀ (f g a : Nat) (z y : Sg), aEnd c a = none → (∀ o, (fCL c f (aZ c z a) (aEnd c a)).1 = some o → ¬ c o = 123) ∧ (mCd c h g y a).1 = none := by
    intro f g a z y he
    rw [he]
    refine ⟨fun o ho => ?_, mCd_none ?_⟩
    · cases f with
      | zero => cases ho
      | succ f => cases ho
    · rcases atm_none he with h1 | ⟨j, h1, h2⟩
      · exact Or.inl h1
      · exact Or.inr ⟨j, h1, by rw [h2]; decide, by rw [h2]; decide⟩
  intro f
  induction f with
  | zero => intro g a z y h1 h2; exact Or.inr (hnone 0 g a z y (aEnd_0 (hc a (by omega))))
  | succ f ih =>
    intro g a z y h1 h2
    cases he : aEnd c a with
    | none => have := hnone (f + 1) g a z y he; rw [he] at this; exact Or.inr this
    | some j =>
      obtain ⟨e1, e2, e3, -⟩ := atm_some he
      obtain ⟨a1, a2, a3⟩ := aZ_eff (z := z) he
      cases g with
      | zero =>
        have h3 : c a = 0 := hc a (by omega)
        rw [aEnd_0 h3] at he; cases he
      | succ g =>
        by_cases hs : c j = 38 ∨ c j = 124
        · have x1 : fCL c (f + 1) (aZ c z a) (some j) = fCL c f (aZ c (aZ c z a) (j + 1)) (aEnd c (j + 1)) := by simp only [fCL, if_pos hs]
          have x2 : mCd c h (g + 1) y a = mCd c h g (us (us y 3 a 7) 4 a (nI h)) (j + 1) := by simp only [mCd, e1, if_pos hs]
          rw [x1, x2]
          rcases ih g (j + 1) (aZ c z a) (us (us y 3 a 7) 4 a (nI h)) (by omega) (by omega) with ⟨o, b1, b2, b3, b4⟩ | b
          · refine Or.inl ⟨o, b1, b2, ⟨j, he, Or.inr ⟨hs, b3⟩⟩, fun p => ?_⟩
            obtain ⟨c1, c2, c3, c4⟩ := b4 p
            refine ⟨fun hm => ?_, fun hm => ?_, fun e q => ?_, fun e q => ?_⟩
            · by_cases hp : Cm c f (j + 1) p
              · exact c1 hp
              · obtain ⟨d1, d2⟩ := c2 hp
                have hpa : p = a := by
                  rcases hm with hm | ⟨j', g1, -, g3⟩
                  · exact hm
                  · have ej : j' = j := Option.some.inj (g1.symm.trans he)
                    rw [ej] at g3; exact absurd g3 hp
                subst hpa
                refine ⟨a1.mono (d1 2) (d1 3) (d1 4), ?_, ?_⟩
                · rw [d2 3, us_c (by decide), us_hit]
                · rw [d2 4, us_hit]
            · have hp : ¬ Cm c f (j + 1) p := fun q => hm (Or.inr ⟨j, he, hs, q⟩)
              have hpa : ¬ p = a := fun q => hm (Or.inl q)
              obtain ⟨d1, d2⟩ := c2 hp
              exact ⟨fun e => by rw [d1 e, a2 e p hpa], fun e => by rw [d2 e, us_p hpa, us_p hpa]⟩
            · rw [c3 e q, a3 e p q]
            · rw [c4 e q, us_c (fun w => q (Or.inr w)), us_c (fun w => q (Or.inl w))]
          · exact Or.inr b
        · have x1 : fCL c (f + 1) (aZ c z a) (some j) = (some j, aZ c z a) := by simp only [fCL, if_neg hs]
          rw [x1]
          by_cases hb : c j = 123
          · have x2 : mCd c h (g + 1) y a = (some (j + 1), us (us y 3 a 7) 4 a (nI h)) := by simp only [mCd, e1, if_neg hs, if_pos hb]
            rw [x2]
            refine Or.inl ⟨j, rfl, rfl, ⟨j, he, Or.inl ⟨rfl, hb⟩⟩, fun p => ⟨fun hm => ?_, fun hm => ?_, fun e q => a3 e p q, fun e q => ?_⟩⟩
            · have hpa : p = a := by
                rcases hm with hm | ⟨j', g1, g2, g3⟩
                · exact hm
                · have ej : j' = j := Option.some.inj (g1.symm.trans he)
                  rw [ej] at g2; exact absurd g2 hs
              subst hpa
              exact ⟨a1, by show us (us y 3 p 7) 4 p (nI h) 3 p = 7; rw [us_c (by decide), us_hit], by show us (us y 3 p 7) 4 p (nI h) 4 p = nI h; rw [us_hit]⟩
            · have hpa : ¬ p = a := fun q => hm (Or.inl q)
              exact ⟨fun e => a2 e p hpa, fun e => by show us (us y 3 a 7) 4 a (nI h) e p = y e p; rw [us_p hpa, us_p hpa]⟩
            · show us (us y 3 a 7) 4 a (nI h) e p = y e p
              rw [us_c (fun w => q (Or.inr w)), us_c (fun w => q (Or.inl w))]
          · refine Or.inr ⟨fun o ho => ?_, mCd_none (Or.inr ⟨j, e1, hs, hb⟩)⟩
            have := Option.some.inj ho
            rw [← this]; exact hb
/-- ways of atoms, from behind -/
def Tt (c : Nat → Int32) (o a : Nat) : Nat := match aEnd c a with
  | some j => if c j = 38 then j + 1 else o + 1
  | none => o + 1
def FR (c : Nat → Int32) (o F0 f a r : Nat) : Prop := ∃ j k, aEnd c a = some j ∧ Fs c f j k ∧ k ≤ o ∧ r = if c k = 124 then k + 1 else F0
def LkE (c : Nat → Int32) (o F0 f a : Nat) (z z' : Sg) : Prop := (∀ e p, ¬ (e = 7 ∨ e = 8) → z' e p = z e p) ∧ (∀ p, ¬ Cm c f a p → ∀ e, z' e p = z e p) ∧ (∀ p, Cm c f a p → ∃ r, FR c o F0 f p r ∧ z' 7 p = nI (if c p = 126 then r else Tt c o p) ∧ z' 8 p = nI (if c p = 126 then Tt c o p else r))
theorem fLk_skip {c : Nat → Int32} {o h : Nat} {T F : Nat} {z : Sg} : ∀ (d m : Nat), (∀ q, h + m < q → q ≤ h + (m + d) → ¬ c q = 124 ∧ ¬ z 2 q = 5) → fLk c o h (m + d) z T F = fLk c o h m z T F
  | 0, m, _ => rfl
  | d + 1, m, hq => by
    have h1 := hq (h + (m + d + 1)) (by omega) (by omega)
    have e : fLk c o h (m + (d + 1)) z T F = fLk c o h (m + d) z T F := by
      show fLk c o h (m + d + 1) z T F = _
      simp only [fLk, if_neg h1.1, if_neg h1.2]
    rw [e]
    exact fLk_skip d m (fun q a b => hq q a (by omega))
theorem Fs_up {c : Nat → Int32} : ∀ (f j k : Nat), Fs c f j k → Fs c (f + 1) j k
  | 0, j, k, h => Or.inl ⟨h.2, h.1⟩
  | f + 1, j, k, h => by
    rcases h with h | ⟨h1, q, h2, h3⟩
    · exact Or.inl h
    · exact Or.inr ⟨h1, q, h2, Fs_up f q k h3⟩
theorem Fs_to {c : Nat → Int32} {f j k : Nat} (h : Fs c f j k) : ∀ g, f ≤ g → Fs c g j k := by
  intro g hg
  induction hg with
  | refl => exact h
  | step _ ih => exact Fs_up _ _ _ ih
theorem Fs_here {c : Nat → Int32} {f j : Nat} (h : ¬ c j = 38) : Fs c f j j := by
  cases f with
  | zero => exact ⟨rfl, h⟩
  | succ f => exact Or.inl ⟨h, rfl⟩
theorem FR_up {c : Nat → Int32} {o F0 f a r : Nat} (h : FR c o F0 f a r) : FR c o F0 (f + 1) a r := by
  obtain ⟨j, k, h1, h2, h3, h4⟩ := h
  exact ⟨j, k, h1, Fs_up _ _ _ h2, h3, h4⟩
/-- one atom at a: the step of fLk -/
theorem fLk_atom {c : Nat → Int32} {o h a j T F : Nat} {z : Sg} (he : aEnd c a = some j) (ha : h < a) (hz : z 2 a = 5) (hi : ∀ q, a < q → q < j → ¬ z 2 q = 5) : fLk c o h (j - 1 - h) z T F = fLk c o h (a - 1 - h) (us (us z 7 a (nI (if c a = 126 then F else T))) 8 a (nI (if c a = 126 then T else F))) a F := by
  obtain ⟨-, e2, e3, -⟩ := atm_some he
  have e : j - 1 - h = (a - h) + (j - 1 - a) := by omega
  rw [e, fLk_skip (j - 1 - a) (a - h) (fun q h1 h2 => ⟨(e3 q (by omega) (by omega)).2.2.1, hi q (by omega) (by omega)⟩)]
  have ea : a - h = (a - 1 - h) + 1 := by omega
  have eb : h + (a - 1 - h + 1) = a := by omega
  rw [ea]
  simp only [fLk, eb, if_neg (e3 a (Nat.le_refl _) e2).2.2.1, if_pos hz]
theorem LkE_atom {c : Nat → Int32} {o F0 f a T F : Nat} {z z1 : Sg} (f1 : Nat) (hT : T = Tt c o a) (hF : FR c o F0 (f + 1) a F) (h1 : LkE c o F0 f f1 z z1) (hin : ∀ p, Cm c (f + 1) a p ↔ p = a ∨ Cm c f f1 p) (hna : ¬ Cm c f f1 a) : LkE c o F0 (f + 1) a z (us (us z1 7 a (nI (if c a = 126 then F else T))) 8 a (nI (if c a = 126 then T else F))) := by
  obtain ⟨g1, g2, g3⟩ := h1
  refine ⟨fun e p he => ?_, fun p hp e => ?_, fun p hp => ?_⟩
  · rw [us_c (fun q => he (Or.inr q)), us_c (fun q => he (Or.inl q)), g1 e p he]
  · have hpa : ¬ p = a := fun q => hp ((hin p).mpr (Or.inl q))
    rw [us_p hpa, us_p hpa, g2 p (fun q => hp ((hin p).mpr (Or.inr q))) e]
  · rcases (hin p).mp hp with rfl | hp
    · refine ⟨F, hF, ?_, ?_⟩
      · rw [us_c (by decide), us_hit, hT]
      · rw [us_hit, hT]
    · have hpa : ¬ p = a := fun q => hna (q ▸ hp)
      obtain ⟨r, r1, r2, r3⟩ := g3 p hp
      exact ⟨r, FR_up r1, by rw [us_p hpa, us_p hpa, r2], by rw [us_p hpa, us_p hpa, r3]⟩
theorem lk_chain {c : Nat → Int32} {o h F0 : Nat} : ∀ (f a : Nat) (z : Sg), Ch c f a o → h < a → (∀ q, a ≤ q → q < o → (z 2 q = 5 ↔ Cm c f a q)) →
    ∃ z' r, fLk c o h (o - 1 - h) z (o + 1) F0 = fLk c o h (a - 1 - h) z' a r ∧ FR c o F0 f a r ∧ LkE c o F0 f a z z' := by
  intro f
  induction f with
  | zero => intro a z h1; exact h1.elim
  | succ f ih =>
    intro a z hC ha hz
    have hC0 := hC
    obtain ⟨j, he, hj⟩ := hC
    obtain ⟨m1, e2, e3, -⟩ := atm_some he
    have hlt := (Ch_lt (f + 1) a o hC0).1
    rcases hj with ⟨rfl, hb⟩ | ⟨hs, hC1⟩
    · have hin : ∀ p, Cm c (f + 1) a p ↔ p = a := fun p => ⟨fun q => by
        rcases q with q | ⟨j', g1, g2, g3⟩
        · exact q
        · rw [Option.some.inj (g1.symm.trans he), hb] at g2; exact absurd g2 (by decide), fun q => Or.inl q⟩
      have hF : FR c j F0 (f + 1) a F0 := ⟨j, j, he, Fs_here (by rw [hb]; decide), Nat.le_refl _, by rw [hb, if_neg (by decide)]⟩
      have hTt : j + 1 = Tt c j a := by unfold Tt; rw [he]; simp only [hb]; rw [if_neg (by decide)]
      refine ⟨_, F0, fLk_atom he ha ((hz a (Nat.le_refl _) hlt).mpr (Or.inl rfl)) (fun q h1 h2 h3 => ?_), hF, ?_⟩
      · have := (hin q).mp ((hz q (by omega) h2).mp h3); omega
      · refine ⟨fun e p hp => ?_, fun p hp e => ?_, fun p hp => ?_⟩
        · rw [us_c (fun q => hp (Or.inr q)), us_c (fun q => hp (Or.inl q))]
        · have hpa : ¬ p = a := fun q => hp (Or.inl q)
          rw [us_p hpa, us_p hpa]
        · have hpa := (hin p).mp hp
          subst hpa
          refine ⟨F0, hF, ?_, ?_⟩
          · rw [us_c (by decide), us_hit, ← hTt]
          · rw [us_hit, ← hTt]
    · have hin : ∀ p, Cm c (f + 1) a p ↔ p = a ∨ Cm c f (j + 1) p := fun p => ⟨fun q => by
        rcases q with q | ⟨j', g1, g2, g3⟩
        · exact Or.inl q
        · rw [Option.some.inj (g1.symm.trans he)] at g3; exact Or.inr g3, fun q => by
        rcases q with q | q
        · exact Or.inl q
        · exact Or.inr ⟨j, he, hs, q⟩⟩
      have hlo : ∀ q, Cm c f (j + 1) q → j + 1 ≤ q ∧ q < o := fun q => Cm_in f (j + 1) o q hC1
      have hjo := (Ch_lt f (j + 1) o hC1).1
      obtain ⟨z1, r1, x1, x2, x3⟩ := ih (j + 1) z hC1 (by omega) (fun q h1 h2 => by
        rw [hz q (by omega) h2, hin q]
        exact ⟨fun w => w.elim (fun w => by omega) id, Or.inr⟩)
      have z2 : ∀ p, z1 2 p = z 2 p := fun p => x3.1 2 p (by decide)
      have hna : ¬ Cm c f (j + 1) a := fun q => by have := hlo a q; omega
      have hz1 : z1 2 a = 5 := by rw [z2]; exact (hz a (Nat.le_refl _) hlt).mpr (Or.inl rfl)
      have hi : ∀ q, a < q → q < j → ¬ z1 2 q = 5 := fun q h1 h2 h3 => by
        rw [z2] at h3
        rcases (hin q).mp ((hz q (by omega) (by omega)).mp h3) with w | w
        · omega
        · have := hlo q w; omega
      have ej : j + 1 - 1 - h = (j - 1 - h) + 1 := by omega
      have eh : h + (j - 1 - h + 1) = j := by omega
      by_cases h124 : c j = 124
      · have step : fLk c o h (j + 1 - 1 - h) z1 (j + 1) r1 = fLk c o h (j - 1 - h) z1 (o + 1) (j + 1) := by
          rw [ej]; simp only [fLk, eh, if_pos h124]
        have hF : FR c o F0 (f + 1) a (j + 1) := ⟨j, j, he, Fs_here (by rw [h124]; decide), by omega, by rw [if_pos h124]⟩
        have hTt : o + 1 = Tt c o a := by unfold Tt; rw [he]; simp only [h124]; rw [if_neg (by decide)]
        exact ⟨_, j + 1, by rw [x1, step]; exact fLk_atom he ha hz1 hi, hF, LkE_atom (j + 1) hTt hF x3 hin hna⟩
      · have h38 : c j = 38 := hs.elim id (fun w => absurd w h124)
        have hnj : ¬ z1 2 j = 5 := fun h3 => by
          rw [z2] at h3
          rcases (hin j).mp ((hz j (by omega) (by omega)).mp h3) with w | w
          · omega
          · have := hlo j w; omega
        have step : fLk c o h (j + 1 - 1 - h) z1 (j + 1) r1 = fLk c o h (j - 1 - h) z1 (j + 1) r1 := by
          rw [ej]; simp only [fLk, eh, if_neg h124, if_neg hnj]
        have hF : FR c o F0 (f + 1) a r1 := by
          obtain ⟨j1, k, q1, q2, q3, q4⟩ := x2
          exact ⟨j, k, he, Or.inr ⟨h38, j1, (atm_some q1).1, q2⟩, q3, q4⟩
        have hTt : j + 1 = Tt c o a := by unfold Tt; rw [he]; simp only [h38]; rw [if_pos trivial]
        exact ⟨_, r1, by rw [x1, step]; exact fLk_atom he ha hz1 hi, hF, LkE_atom (j + 1) hTt hF x3 hin hna⟩
