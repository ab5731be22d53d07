/-! The pure part: the bytes of a long -/
theorem by_1 : ∀ m, m < 8 → (((nI (8 * m)).toInt64.toUInt64 &&& Int64.toUInt64 63).toBitVec % 64).toNat = 8 * m := by decide +kernel
theorem by_2 : ∀ m, m < 8 → ((((8 : Int32) * nI m).toInt64 &&& 63).toBitVec.smod 64).toNat = 8 * m := by decide +kernel
theorem bt_255 : ∀ i, i < 32 → bt 255 i = decide (i < 8) := by decide
theorem bO_b (x : Int64) {m i : Nat} (hm : m < 8) (hi : i < 32) : bt (bO x m) i = (decide (i < 8) && x.toBitVec.getLsbD (8 * m + i)) := by
  unfold bO
  rw [bt_and, bt_255 i hi]
  by_cases h8 : i < 8
  · simp only [h8, decide_true, Bool.and_true, Bool.true_and]
    unfold bt
    have hw := by_1 m hm
    generalize (nI (8 * m)).toInt64.toUInt64 &&& Int64.toUInt64 63 = w at hw ⊢
    rw [Int64.toBitVec_toInt32, UInt64.toBitVec_toInt64, UInt64.toBitVec_shiftRight, BitVec.ushiftRight_eq', hw, BitVec.getLsbD_signExtend, BitVec.getLsbD_ushiftRight, Int64.toBitVec_toUInt64, if_pos (by omega)]
    simp only [hi, decide_true, Bool.true_and]
  · simp [h8]
theorem mB_b (x : Int64) {m i : Nat} (hm : m < 8) (hi : i < 32) : bt (mB x m) i = (decide (i < 8) && x.toBitVec.getLsbD (8 * m + i)) := by
  unfold mB
  rw [bt_and, bt_255 i hi]
  by_cases h8 : i < 8
  · simp only [h8, decide_true, Bool.and_true, Bool.true_and]
    unfold bt
    have hw := by_2 m hm
    generalize ((8 : Int32) * nI m).toInt64 &&& 63 = w at hw ⊢
    rw [Int64.toBitVec_toInt32, Int64.toBitVec_shiftRight, BitVec.sshiftRight_eq', hw, BitVec.getLsbD_signExtend, BitVec.getLsbD_sshiftRight, if_pos (by omega), if_pos (by omega)]
    simp only [hi, decide_true, Bool.true_and]
    rw [decide_eq_false (show ¬ 64 ≤ i by omega)]; rfl
  · simp [h8]
theorem by_eq (x : Int64) {m : Nat} (hm : m < 8) : bO x m = mB x m := bt_ext (fun i hi => by rw [bO_b x hm hi, mB_b x hm hi])
theorem oI_s {a : Nat} : oI (some a) = nI a := rfl
/-- characters that may be typed -/
theorem ok_ch : ∀ k, k < 127 → okc (nI k) ∧ vp_nar .char (((nI k).toUInt32 % 65536).toInt32) = nI k := by decide +kernel
theorem by_ok {b : Int32} (h : ¬ (b < 33 ∨ 126 < b)) : okc b ∧ vp_nar .char ((b.toUInt32 % 65536).toInt32) = b := by
  have h1 : ¬ b < 33 := fun q => h (Or.inl q)
  have h2 : ¬ 126 < b := fun q => h (Or.inr q)
  rw [Int32.lt_iff_toInt_lt] at h1 h2
  have e1 : (33 : Int32).toInt = 33 := by decide
  have e2 : (126 : Int32).toInt = 126 := by decide
  rw [e1] at h1; rw [e2] at h2
  have e : b = nI b.toInt.toNat := Int32.toInt_inj.mp (by rw [nI_toInt (by omega)]; omega)
  rw [e]
  exact ok_ch _ (by omega)
theorem fCnt_all {x : Int64} : ∀ (m a b : Nat), m ≤ 8 → (fCnt x m a = some b ↔ (∀ k, k < m → ¬ (¬ bO x k = 0 ∧ (bO x k < 33 ∨ 126 < bO x k))) ∧ b = a + nCh x m)
  | 0, a, b, _ => by
    simp only [fCnt, nCh]
    exact ⟨fun h => ⟨fun k hk => absurd hk (Nat.not_lt_zero _), (Option.some.inj h).symm⟩, fun h => by rw [h.2]; rfl⟩
  | m + 1, a, b, hm => by
    simp only [fCnt, nCh]
    by_cases h : ¬ bO x m = 0 ∧ (bO x m < 33 ∨ 126 < bO x m)
    · rw [if_pos h]
      exact ⟨(fun q => by cases q), (fun q => absurd h (q.1 m (by omega)))⟩
    · rw [if_neg h, fCnt_all m _ b (by omega)]
      constructor
      · rintro ⟨p, q⟩
        refine ⟨fun k hk => ?_, by omega⟩
        by_cases e : k = m
        · rw [e]; exact h
        · exact p k (by omega)
      · rintro ⟨p, q⟩
        exact ⟨fun k hk => p k (by omega), by omega⟩
theorem mCt_all {x : Int64} : ∀ (m k a b : Nat), k + m = 8 → (mCt x m k a = some b ↔ (∀ i, k ≤ i → i < 8 → ¬ (¬ mB x i = 0 ∧ (mB x i < 33 ∨ 126 < mB x i))) ∧ b + mN x k = a + mN x 8)
  | 0, k, a, b, hk => by
    have e : k = 8 := by omega
    subst e
    simp only [mCt]
    exact ⟨fun h => ⟨fun i h1 h2 => by omega, by rw [Option.some.inj h]⟩, fun h => by rw [show b = a by omega]⟩
  | m + 1, k, a, b, hk => by
    simp only [mCt]
    have eN : mN x (k + 1) = (if mB x k = 0 then 0 else 1) + mN x k := rfl
    by_cases h : ¬ mB x k = 0 ∧ (mB x k < 33 ∨ 126 < mB x k)
    · rw [if_pos h]
      exact ⟨(fun q => by cases q), (fun q => absurd h (q.1 k (Nat.le_refl _) (by omega)))⟩
    · rw [if_neg h, mCt_all m (k + 1) _ b (by omega)]
      constructor
      · rintro ⟨p, q⟩
        refine ⟨fun i h1 h2 => ?_, by omega⟩
        by_cases e : i = k
        · rw [e]; exact h
        · exact p i (by omega) h2
      · rintro ⟨p, q⟩
        exact ⟨fun i h1 h2 => p i (by omega) h2, by omega⟩
theorem nCh_N {x : Int64} : ∀ m, m ≤ 8 → nCh x m = mN x m
  | 0, _ => rfl
  | m + 1, h => by
    simp only [nCh, mN]
    rw [nCh_N m (by omega), by_eq x (by omega)]
theorem app_ok {x : Int64} : ∀ (m : Nat) (t : Nat → Int32) (n : Nat), m ≤ 8 → (∀ k, k < m → ¬ (¬ bO x k = 0 ∧ (bO x k < 33 ∨ 126 < bO x k))) → okt t → fApp x m t n = mAp x m t n ∧ okt (fApp x m t n).1 ∧ (fApp x m t n).2 = n + nCh x m
  | 0, t, n, _, _, ht => ⟨rfl, ht, rfl⟩
  | m + 1, t, n, hm, h, ht => by
    simp only [fApp, mAp, nCh]
    rw [← by_eq x (show m < 8 by omega)]
    by_cases h0 : bO x m = 0
    · rw [if_pos h0, if_pos h0, if_pos h0]
      have := app_ok m t n (by omega) (fun k hk => h k (by omega)) ht
      exact ⟨this.1, this.2.1, by omega⟩
    · rw [if_neg h0, if_neg h0, if_neg h0]
      have hb := by_ok (fun q => h m (by omega) ⟨h0, q⟩)
      rw [hb.2]
      have ht' : okt (upd t n (bO x m)) := fun j => by
        by_cases e : j = n
        · rw [e]; simp only [upd, if_true]; exact hb.1
        · simp only [upd, if_neg e]; exact ht j
      have := app_ok m (upd t n (bO x m)) (n + 1) (by omega) (fun k hk => h k (by omega)) ht'
      exact ⟨this.1, this.2.1, by omega⟩
/-- typing: both take it, or neither -/
theorem type_lock (x : Int64) (t : Nat → Int32) (n : Nat) (ht : okt t) :
    (canApp x n ∧ mCt x 8 0 0 = some (mN x 8) ∧ n + mN x 8 ≤ 64 ∧ fApp x 8 t n = mAp x 8 t n ∧ okt (fApp x 8 t n).1 ∧ (fApp x 8 t n).2 ≤ 64) ∨ (¬ canApp x n ∧ ∀ a, mCt x 8 0 0 = some a → 64 < n + a) := by
  have hN := nCh_N (x := x) 8 (Nat.le_refl _)
  have hall : (∀ k, k < 8 → ¬ (¬ bO x k = 0 ∧ (bO x k < 33 ∨ 126 < bO x k))) ↔ (∀ i, 0 ≤ i → i < 8 → ¬ (¬ mB x i = 0 ∧ (mB x i < 33 ∨ 126 < mB x i))) := by
    constructor
    · intro h i _ hi; rw [← by_eq x hi]; exact h i hi
    · intro h i hi; rw [by_eq x hi]; exact h i (Nat.zero_le _) hi
  have e0 : mN x 0 = 0 := rfl
  by_cases hA : ∀ k, k < 8 → ¬ (¬ bO x k = 0 ∧ (bO x k < 33 ∨ 126 < bO x k))
  · by_cases hl : n + mN x 8 ≤ 64
    · left
      have ap := app_ok 8 t n (Nat.le_refl _) hA ht
      refine ⟨⟨nCh x 8, (fCnt_all 8 0 _ (Nat.le_refl _)).mpr ⟨hA, by omega⟩, by omega⟩, (mCt_all 8 0 0 _ rfl).mpr ⟨hall.mp hA, by omega⟩, hl, ap.1, ap.2.1, by omega⟩
    · right
      refine ⟨fun ⟨a, h1, h2⟩ => ?_, fun a h1 => ?_⟩
      · have := ((fCnt_all 8 0 _ (Nat.le_refl _)).mp h1).2; omega
      · have := ((mCt_all 8 0 0 _ rfl).mp h1).2; omega
  · right
    refine ⟨fun ⟨a, h1, h2⟩ => hA ((fCnt_all 8 0 _ (Nat.le_refl _)).mp h1).1, fun a h1 => absurd (hall.mpr ((mCt_all 8 0 0 _ rfl).mp h1).1) hA⟩
