/-! words of the tables by their places -/
theorem tb1 {w : Cond} {i : Nat} (h : tables_1_1[i]? = some w) (g : goodWord w = true) : w ∈ wsG := wsG_in (List.mem_append_right _ (List.mem_append_left _ (List.mem_of_getElem? h))) g
theorem tb2 {w : Cond} {i : Nat} (h : tables_1_2[i]? = some w) (g : goodWord w = true) : w ∈ wsG := wsG_in (List.mem_append_right _ (List.mem_append_right _ (List.mem_append_left _ (List.mem_of_getElem? h)))) g
theorem tb3 {w : Cond} {i : Nat} (h : tables_1_3[i]? = some w) (g : goodWord w = true) : w ∈ wsG := wsG_in (List.mem_append_right _ (List.mem_append_right _ (List.mem_append_right _ (List.mem_of_getElem? h)))) g
theorem tbS1 {q : MethodName × Nat} {i : Nat} (h : lw_privs_1[i]? = some q) : Cond.selects q.1.cls q.1 q.1 ∈ wsG := wsG_in (List.mem_append_left _ (List.mem_map.mpr ⟨q, (show q ∈ lw_privs from List.mem_append_left _ (List.mem_of_getElem? h)), rfl⟩)) rfl
theorem tbS2 {q : MethodName × Nat} {i : Nat} (h : lw_privs_2[i]? = some q) : Cond.selects q.1.cls q.1 q.1 ∈ wsG := wsG_in (List.mem_append_left _ (List.mem_map.mpr ⟨q, (show q ∈ lw_privs from List.mem_append_right _ (List.mem_append_left _ (List.mem_of_getElem? h))), rfl⟩)) rfl
theorem tbS3 {q : MethodName × Nat} {i : Nat} (h : lw_privs_3[i]? = some q) : Cond.selects q.1.cls q.1 q.1 ∈ wsG := wsG_in (List.mem_append_left _ (List.mem_map.mpr ⟨q, (show q ∈ lw_privs from List.mem_append_right _ (List.mem_append_right _ (List.mem_append_left _ (List.mem_of_getElem? h)))), rfl⟩)) rfl
theorem tbS4 {q : MethodName × Nat} {i : Nat} (h : lw_privs_4[i]? = some q) : Cond.selects q.1.cls q.1 q.1 ∈ wsG := wsG_in (List.mem_append_left _ (List.mem_map.mpr ⟨q, (show q ∈ lw_privs from List.mem_append_right _ (List.mem_append_right _ (List.mem_append_right _ (List.mem_of_getElem? h)))), rfl⟩)) rfl
theorem u_P : ∀ w ∈ u_ws R_P F_P 16, w ∈ wsG := by
  intro w hw
  obtain ⟨k, hk, rfl⟩ := List.mem_map.mp hw
  have hk : k < 16 := List.mem_range.mp hk
  match k, hk with
  | 0, _ => exact tb1 (i := 121) rfl rfl
  | 1, _ => exact tb1 (i := 123) rfl rfl
  | 2, _ => exact tb1 (i := 125) rfl rfl
  | 3, _ => exact tb1 (i := 127) rfl rfl
  | 4, _ => exact tb1 (i := 129) rfl rfl
  | 5, _ => exact tb1 (i := 131) rfl rfl
  | 6, _ => exact tb1 (i := 133) rfl rfl
  | 7, _ => exact tb1 (i := 135) rfl rfl
  | 8, _ => exact tb1 (i := 137) rfl rfl
  | 9, _ => exact tb1 (i := 139) rfl rfl
  | 10, _ => exact tb1 (i := 141) rfl rfl
  | 11, _ => exact tb1 (i := 143) rfl rfl
  | 12, _ => exact tb1 (i := 145) rfl rfl
  | 13, _ => exact tb1 (i := 147) rfl rfl
  | 14, _ => exact tb1 (i := 149) rfl rfl
  | 15, _ => exact tb1 (i := 151) rfl rfl
  | k + 16, hk => exact absurd hk (by omega)
theorem u_K : ∀ w ∈ u_ws R_K F_K 5, w ∈ wsG := by
  intro w hw
  obtain ⟨k, hk, rfl⟩ := List.mem_map.mp hw
  have hk : k < 5 := List.mem_range.mp hk
  match k, hk with
  | 0, _ => exact tb1 (i := 168) rfl rfl
  | 1, _ => exact tb1 (i := 170) rfl rfl
  | 2, _ => exact tb1 (i := 172) rfl rfl
  | 3, _ => exact tb1 (i := 174) rfl rfl
  | 4, _ => exact tb1 (i := 176) rfl rfl
  | k + 5, hk => exact absurd hk (by omega)
theorem u_H : ∀ w ∈ u_ws R_H F_H 7, w ∈ wsG := by
  intro w hw
  obtain ⟨k, hk, rfl⟩ := List.mem_map.mp hw
  have hk : k < 7 := List.mem_range.mp hk
  match k, hk with
  | 0, _ => exact tb1 (i := 198) rfl rfl
  | 1, _ => exact tb1 (i := 200) rfl rfl
  | 2, _ => exact tb1 (i := 202) rfl rfl
  | 3, _ => exact tb1 (i := 204) rfl rfl
  | 4, _ => exact tb1 (i := 206) rfl rfl
  | 5, _ => exact tb1 (i := 208) rfl rfl
  | 6, _ => exact tb1 (i := 210) rfl rfl
  | k + 7, hk => exact absurd hk (by omega)
theorem u_N : ∀ w ∈ u_ws R_N F_N 5, w ∈ wsG := by
  intro w hw
  obtain ⟨k, hk, rfl⟩ := List.mem_map.mp hw
  have hk : k < 5 := List.mem_range.mp hk
  match k, hk with
  | 0, _ => exact tb1 (i := 218) rfl rfl
  | 1, _ => exact tb1 (i := 220) rfl rfl
  | 2, _ => exact tb1 (i := 222) rfl rfl
  | 3, _ => exact tb1 (i := 224) rfl rfl
  | 4, _ => exact tb1 (i := 226) rfl rfl
  | k + 5, hk => exact absurd hk (by omega)
theorem u_M : ∀ w ∈ u_ws R_M F_M 27, w ∈ wsG := by
  intro w hw
  obtain ⟨k, hk, rfl⟩ := List.mem_map.mp hw
  have hk : k < 27 := List.mem_range.mp hk
  match k, hk with
  | 0, _ => exact tb2 (i := 226) rfl rfl
  | 1, _ => exact tb2 (i := 228) rfl rfl
  | 2, _ => exact tb2 (i := 230) rfl rfl
  | 3, _ => exact tb2 (i := 232) rfl rfl
  | 4, _ => exact tb2 (i := 234) rfl rfl
  | 5, _ => exact tb2 (i := 236) rfl rfl
  | 6, _ => exact tb2 (i := 238) rfl rfl
  | 7, _ => exact tb3 (i := 0) rfl rfl
  | 8, _ => exact tb3 (i := 2) rfl rfl
  | 9, _ => exact tb3 (i := 4) rfl rfl
  | 10, _ => exact tb3 (i := 6) rfl rfl
  | 11, _ => exact tb3 (i := 8) rfl rfl
  | 12, _ => exact tb3 (i := 10) rfl rfl
  | 13, _ => exact tb3 (i := 12) rfl rfl
  | 14, _ => exact tb3 (i := 14) rfl rfl
  | 15, _ => exact tb3 (i := 16) rfl rfl
  | 16, _ => exact tb3 (i := 18) rfl rfl
  | 17, _ => exact tb3 (i := 20) rfl rfl
  | 18, _ => exact tb3 (i := 22) rfl rfl
  | 19, _ => exact tb3 (i := 24) rfl rfl
  | 20, _ => exact tb3 (i := 26) rfl rfl
  | 21, _ => exact tb3 (i := 28) rfl rfl
  | 22, _ => exact tb3 (i := 30) rfl rfl
  | 23, _ => exact tb3 (i := 32) rfl rfl
  | 24, _ => exact tb3 (i := 34) rfl rfl
  | 25, _ => exact tb3 (i := 36) rfl rfl
  | 26, _ => exact tb3 (i := 38) rfl rfl
  | k + 27, hk => exact absurd hk (by omega)
theorem xcls : XCls := by
  intro ci C U N h
  match ci, h with
  | 0, h => obtain ⟨rfl, rfl, rfl⟩ : R_P = C ∧ F_P = U ∧ 16 = N := by simpa [vwCl] using h
            exact ⟨u_P, n_P, t_P, t_P_ok⟩
  | 1, h => obtain ⟨rfl, rfl, rfl⟩ : R_K = C ∧ F_K = U ∧ 5 = N := by simpa [vwCl] using h
            exact ⟨u_K, n_K, t_K, t_K_ok⟩
  | 2, h => obtain ⟨rfl, rfl, rfl⟩ : R_H = C ∧ F_H = U ∧ 7 = N := by simpa [vwCl] using h
            exact ⟨u_H, n_H, t_H, t_H_ok⟩
  | 3, h => obtain ⟨rfl, rfl, rfl⟩ : R_N = C ∧ F_N = U ∧ 5 = N := by simpa [vwCl] using h
            exact ⟨u_N, n_N, t_N, t_N_ok⟩
  | 4, h => obtain ⟨rfl, rfl, rfl⟩ : R_M = C ∧ F_M = U ∧ 27 = N := by simpa [vwCl] using h
            exact ⟨u_M, n_M, t_M, t_M_ok⟩
  | n + 5, h => simp [vwCl] at h
