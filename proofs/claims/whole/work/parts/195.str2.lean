def fJ3_checkIndex (M : Mem) (a0 a1 : Int32) : Option (Int32 × Mem) := if a0 < 0 then none else if a0 < a1 then some (a0, M) else none
theorem tJ3_checkIndex (r : Nat) {fx : Fx} {al : Bool} {M N : Mem} {a0 a1 xr : Int32} {v : Value} (hv : v = .null ∨ v = .retAddr 21) (h : fJ3_checkIndex M a0 a1 = some (xr, N)) : Ct fx yJ3_checkIndex_8e157 cJ3_checkIndex_8e157 3 (some .int) (r + 0) 0 0 al [.int a0, .int a1, v] M (some (.int xr)) N := by
  refine ct_of (lv := [some (.int a0), some (.int a1), some v]) (by decide) (by rcases hv with rfl | rfl <;> exact Nat.le_of_ble_eq_true rfl) (by rcases hv with rfl | rfl <;> rfl) rfl (fun z hz => ?_)
  unfold fJ3_checkIndex at h
  refine v_iload_n hz rfl rfl dJ3_checkIndex_8e157_0 ?_
  refine v_if_lt (tgt := 9) hz dJ3_checkIndex_8e157_1 (by decide) (fun hc => ?_) (fun hc => ?_)
  · replace h := (if_pos hc).symm.trans h
    cases h
  · replace h := (if_neg hc).symm.trans h
    refine v_iload_n hz rfl rfl dJ3_checkIndex_8e157_4 ?_
    refine v_iload_n hz rfl rfl dJ3_checkIndex_8e157_5 ?_
    refine v_icmp_lt (tgt := 16) hz dJ3_checkIndex_8e157_6 (by decide) (fun hc => ?_) (fun hc => ?_)
    · replace h := (if_pos hc).symm.trans h
      refine v_iload_n hz rfl rfl dJ3_checkIndex_8e157_16 ?_
      cases h
      exact v_iret hz dJ3_checkIndex_8e157_17 (by decide) (by decide)
    · replace h := (if_neg hc).symm.trans h
      cases h
def fJ0_checkIndex_df160 (M : Mem) (a0 a1 : Int32) : Option (Unit × Mem) := bd (fJ3_checkIndex M a0 a1) fun _ M1 => some ((), M1)
theorem tJ0_checkIndex_df160 (r : Nat) {fx : Fx} {al : Bool} {M N : Mem} {a0 a1 : Int32} (h : fJ0_checkIndex_df160 M a0 a1 = some ((), N)) : Ct fx yJ0_checkIndex_df160 cJ0_checkIndex_df160 2 none (r + 2) 0 0 al [.int a0, .int a1] M none N := by
  refine ct_of (lv := [some (.int a0), some (.int a1)]) (by decide) (Nat.le_of_ble_eq_true rfl) rfl rfl (fun z hz => ?_)
  unfold fJ0_checkIndex_df160 at h
  refine v_iload_n hz rfl rfl dJ0_checkIndex_df160_0 ?_
  refine v_iload_n hz rfl rfl dJ0_checkIndex_df160_1 ?_
  refine v_getSF hz (BIG_of 477 (by decide +kernel) (by decide +kernel)) dJ0_checkIndex_df160_2 (fun v hv => ?_)
  obtain ⟨x1, M1, e1, h⟩ := bd_inv h
  refine v_callSX hz (As := [.int a0, .int a1, v]) sx_J0_1059 (tJ3_checkIndex (r + 1) hv e1) rfl rfl rfl (Nat.le_of_ble_eq_true rfl) ⟨by decide, by decide⟩ dJ0_checkIndex_df160_5 ?_
  show V z 8 [some (.int a0), some (.int a1)] [.int x1] M1 0 0
  refine v_pop hz rfl dJ0_checkIndex_df160_8 ?_
  cases h
  exact v_vret hz dJ0_checkIndex_df160_9 (by decide) (by decide)
