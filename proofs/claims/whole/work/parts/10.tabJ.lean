/-! tables of the methods, by program -/
def T_JM_min : List (Nat × XE) := [(0, (.iload_n 0, 1, 0, 0, [])), (1, (.iload_n 1, 2, 0, 0, [])), (2, (.if_icmp .gt 7, 5, 9, 0, [])), (5, (.iload_n 0, 6, 0, 0, [])), (6, (.goto 4, 9, 10, 0, [])), (9, (.iload_n 1, 10, 0, 0, [])), (10, (.ireturn, 11, 0, 0, []))]
def F_JM_min : List (Nat × XF) := []
def C_JM_min : List (Nat × XK) := []
theorem okT_JM_min : T_JM_min.all (fun e => xgood q_JM_min.2.1 e.1 e.2) = true := by decide +kernel
theorem okF_JM_min : ∀ e ∈ F_JM_min, xfok q_JM_min.1.cls e.1 e.2 := fun _ h => absurd h List.not_mem_nil
theorem okC_JM_min : ∀ e ∈ C_JM_min, xcok q_JM_min.1.cls e.1 e.2 := fun _ h => absurd h List.not_mem_nil
theorem ok_JM_min : XOk q_JM_min T_JM_min F_JM_min C_JM_min := ⟨okT_JM_min, okF_JM_min, okC_JM_min⟩
def T_JA_fill : List (Nat × XE) := [(0, (.iconst 0, 1, 0, 0, [])), (1, (.istore_n 2, 2, 0, 0, [])), (2, (.aload_n 0, 3, 0, 0, [])), (3, (.arraylength, 4, 0, 0, [])), (4, (.istore_n 3, 5, 0, 0, [])), (5, (.iload_n 2, 6, 0, 0, [])), (6, (.iload_n 3, 7, 0, 0, [])), (7, (.if_icmp .ge 13, 10, 20, 0, [])), (10, (.aload_n 0, 11, 0, 0, [])), (11, (.iload_n 2, 12, 0, 0, [])), (12, (.iload_n 1, 13, 0, 0, [])), (13, (.iastore, 14, 0, 0, [])), (14, (.iinc 2 1, 17, 0, 1, [])), (17, (.goto (-12), 20, 5, 0, [])), (20, (.return_, 21, 0, 0, []))]
def F_JA_fill : List (Nat × XF) := []
def C_JA_fill : List (Nat × XK) := []
theorem okT_JA_fill : T_JA_fill.all (fun e => xgood q_JA_fill.2.1 e.1 e.2) = true := by decide +kernel
theorem okF_JA_fill : ∀ e ∈ F_JA_fill, xfok q_JA_fill.1.cls e.1 e.2 := fun _ h => absurd h List.not_mem_nil
theorem okC_JA_fill : ∀ e ∈ C_JA_fill, xcok q_JA_fill.1.cls e.1 e.2 := fun _ h => absurd h List.not_mem_nil
theorem ok_JA_fill : XOk q_JA_fill T_JA_fill F_JA_fill C_JA_fill := ⟨okT_JA_fill, okF_JA_fill, okC_JA_fill⟩
