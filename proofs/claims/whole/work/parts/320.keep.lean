/-! ===== what keep() writes and again() reads ===== -/
def src (j : Nat) : Nat × Nat := if j < 25 then (56, j - 0) else if j < 31 then (57, j - 25) else if j < 37 then (58, j - 31) else if j < 43 then (59, j - 37) else if j < 49 then (60, j - 43) else if j < 73 then (61, j - 49) else if j < 78 then (70, j - 73) else if j < 83 then (71, j - 78) else if j < 88 then (72, j - 83) else if j < 98 then (73, j - 88) else if j < 108 then (74, j - 98) else if j < 116 then (75, j - 108) else if j < 124 then (76, j - 116) else if j = 124 then (55, 1) else if j = 125 then (55, 7) else if j = 126 then (55, 24) else if j = 127 then (55, 28) else if j = 128 then (55, 31) else (55, 15)
def sv (M : Mem) (j : Nat) : Int32 := mI M (src j).1 (src j).2
def csr (q : Nat × Nat) : Nat := if q.1 = 55 then (if q.2 = 1 then 124 else if q.2 = 7 then 125 else if q.2 = 24 then 126 else if q.2 = 28 then 127 else if q.2 = 31 then 128 else 129) else if q.1 = 56 then 0 + q.2 else if q.1 = 57 then 25 + q.2 else if q.1 = 58 then 31 + q.2 else if q.1 = 59 then 37 + q.2 else if q.1 = 60 then 43 + q.2 else if q.1 = 61 then 49 + q.2 else if q.1 = 70 then 73 + q.2 else if q.1 = 71 then 78 + q.2 else if q.1 = 72 then 83 + q.2 else if q.1 = 73 then 88 + q.2 else if q.1 = 74 then 98 + q.2 else if q.1 = 75 then 108 + q.2 else if q.1 = 76 then 116 + q.2 else 0
theorem csr_src : ∀ j, j < 130 → csr (src j) = j := by decide +kernel
theorem src_row : ∀ j, j < 130 → ((56 ≤ (src j).1 ∧ (src j).1 ≤ 61) ∨ (70 ≤ (src j).1 ∧ (src j).1 ≤ 76)) ∨ ((src j).1 = 55 ∧ ((src j).2 = 1 ∨ (src j).2 = 7 ∨ (src j).2 = 24 ∨ (src j).2 = 28 ∨ (src j).2 = 31 ∨ (src j).2 = 15)) := by decide +kernel
theorem src_56 {i : Nat} (h : i < 25) : src (0 + i) = (56, i) := by
  unfold src
  rw [if_pos (by omega)]
  rw [Nat.add_sub_cancel_left]
theorem sv_56 {M : Mem} {i : Nat} (h : i < 25) : sv M (0 + i) = mI M 56 i := by
  unfold sv
  rw [src_56 h]
theorem src_57 {i : Nat} (h : i < 6) : src (25 + i) = (57, i) := by
  unfold src
  rw [if_neg (by omega), if_pos (by omega)]
  rw [Nat.add_sub_cancel_left]
theorem sv_57 {M : Mem} {i : Nat} (h : i < 6) : sv M (25 + i) = mI M 57 i := by
  unfold sv
  rw [src_57 h]
theorem src_58 {i : Nat} (h : i < 6) : src (31 + i) = (58, i) := by
  unfold src
  rw [if_neg (by omega), if_neg (by omega), if_pos (by omega)]
  rw [Nat.add_sub_cancel_left]
theorem sv_58 {M : Mem} {i : Nat} (h : i < 6) : sv M (31 + i) = mI M 58 i := by
  unfold sv
  rw [src_58 h]
theorem src_59 {i : Nat} (h : i < 6) : src (37 + i) = (59, i) := by
  unfold src
  rw [if_neg (by omega), if_neg (by omega), if_neg (by omega), if_pos (by omega)]
  rw [Nat.add_sub_cancel_left]
theorem sv_59 {M : Mem} {i : Nat} (h : i < 6) : sv M (37 + i) = mI M 59 i := by
  unfold sv
  rw [src_59 h]
theorem src_60 {i : Nat} (h : i < 6) : src (43 + i) = (60, i) := by
  unfold src
  rw [if_neg (by omega), if_neg (by omega), if_neg (by omega), if_neg (by omega), if_pos (by omega)]
  rw [Nat.add_sub_cancel_left]
theorem sv_60 {M : Mem} {i : Nat} (h : i < 6) : sv M (43 + i) = mI M 60 i := by
  unfold sv
  rw [src_60 h]
theorem src_61 {i : Nat} (h : i < 24) : src (49 + i) = (61, i) := by
  unfold src
  rw [if_neg (by omega), if_neg (by omega), if_neg (by omega), if_neg (by omega), if_neg (by omega), if_pos (by omega)]
  rw [Nat.add_sub_cancel_left]
theorem sv_61 {M : Mem} {i : Nat} (h : i < 24) : sv M (49 + i) = mI M 61 i := by
  unfold sv
  rw [src_61 h]
theorem src_70 {i : Nat} (h : i < 5) : src (73 + i) = (70, i) := by
  unfold src
  rw [if_neg (by omega), if_neg (by omega), if_neg (by omega), if_neg (by omega), if_neg (by omega), if_neg (by omega), if_pos (by omega)]
  rw [Nat.add_sub_cancel_left]
theorem sv_70 {M : Mem} {i : Nat} (h : i < 5) : sv M (73 + i) = mI M 70 i := by
  unfold sv
  rw [src_70 h]
theorem src_71 {i : Nat} (h : i < 5) : src (78 + i) = (71, i) := by
  unfold src
  rw [if_neg (by omega), if_neg (by omega), if_neg (by omega), if_neg (by omega), if_neg (by omega), if_neg (by omega), if_neg (by omega), if_pos (by omega)]
  rw [Nat.add_sub_cancel_left]
theorem sv_71 {M : Mem} {i : Nat} (h : i < 5) : sv M (78 + i) = mI M 71 i := by
  unfold sv
  rw [src_71 h]
theorem src_72 {i : Nat} (h : i < 5) : src (83 + i) = (72, i) := by
  unfold src
  rw [if_neg (by omega), if_neg (by omega), if_neg (by omega), if_neg (by omega), if_neg (by omega), if_neg (by omega), if_neg (by omega), if_neg (by omega), if_pos (by omega)]
  rw [Nat.add_sub_cancel_left]
theorem sv_72 {M : Mem} {i : Nat} (h : i < 5) : sv M (83 + i) = mI M 72 i := by
  unfold sv
  rw [src_72 h]
theorem src_73 {i : Nat} (h : i < 10) : src (88 + i) = (73, i) := by
  unfold src
  rw [if_neg (by omega), if_neg (by omega), if_neg (by omega), if_neg (by omega), if_neg (by omega), if_neg (by omega), if_neg (by omega), if_neg (by omega), if_neg (by omega), if_pos (by omega)]
  rw [Nat.add_sub_cancel_left]
theorem sv_73 {M : Mem} {i : Nat} (h : i < 10) : sv M (88 + i) = mI M 73 i := by
  unfold sv
  rw [src_73 h]
theorem src_74 {i : Nat} (h : i < 10) : src (98 + i) = (74, i) := by
  unfold src
  rw [if_neg (by omega), if_neg (by omega), if_neg (by omega), if_neg (by omega), if_neg (by omega), if_neg (by omega), if_neg (by omega), if_neg (by omega), if_neg (by omega), if_neg (by omega), if_pos (by omega)]
  rw [Nat.add_sub_cancel_left]
theorem sv_74 {M : Mem} {i : Nat} (h : i < 10) : sv M (98 + i) = mI M 74 i := by
  unfold sv
  rw [src_74 h]
theorem src_75 {i : Nat} (h : i < 8) : src (108 + i) = (75, i) := by
  unfold src
  rw [if_neg (by omega), if_neg (by omega), if_neg (by omega), if_neg (by omega), if_neg (by omega), if_neg (by omega), if_neg (by omega), if_neg (by omega), if_neg (by omega), if_neg (by omega), if_neg (by omega), if_pos (by omega)]
  rw [Nat.add_sub_cancel_left]
theorem sv_75 {M : Mem} {i : Nat} (h : i < 8) : sv M (108 + i) = mI M 75 i := by
  unfold sv
  rw [src_75 h]
theorem src_76 {i : Nat} (h : i < 8) : src (116 + i) = (76, i) := by
  unfold src
  rw [if_neg (by omega), if_neg (by omega), if_neg (by omega), if_neg (by omega), if_neg (by omega), if_neg (by omega), if_neg (by omega), if_neg (by omega), if_neg (by omega), if_neg (by omega), if_neg (by omega), if_neg (by omega), if_pos (by omega)]
  rw [Nat.add_sub_cancel_left]
theorem sv_76 {M : Mem} {i : Nat} (h : i < 8) : sv M (116 + i) = mI M 76 i := by
  unfold sv
  rw [src_76 h]
theorem sv_124 {M : Mem} : sv M 124 = mI M 55 1 := rfl
theorem sv_125 {M : Mem} : sv M 125 = mI M 55 7 := rfl
theorem sv_126 {M : Mem} : sv M 126 = mI M 55 24 := rfl
theorem sv_127 {M : Mem} : sv M 127 = mI M 55 28 := rfl
theorem sv_128 {M : Mem} : sv M 128 = mI M 55 31 := rfl
theorem sv_129 {M : Mem} : sv M 129 = mI M 55 15 := rfl
def KA (M : Mem) (a : Nat) : Prop := (a = 78 ∨ a = 79 ∨ a = 80) ∧ isK M a 14 = true ∧ mG M a = 130
set_option maxHeartbeats 1000000 in
theorem p_kp200 {M : Mem} {a : Nat} (h : Sh M) (hka : KA M a) : ∀ (n m i : Nat) (F : Nat → Int32), i + n = 8 → (∀ j, j < 130 → (j < 108 ∨ (108 ≤ j ∧ j < 108 + i) ∨ (116 ≤ j ∧ j < 116 + i)) → F j = sv M j) → ∃ G, gX12_keep_200 (m + n + 1) (wF M a F) 55 a (nI i) = some ((), wF M a G) ∧ ∀ j, j < 130 → G j = sv M j := by
  obtain ⟨ha, hk, hg⟩ := hka
  intro n
  induction n with
  | zero =>
    intro m i F hi hF
    have : i = 8 := by omega
    subst this
    rw [gX12_keep_200_s, if_pos (by decide)]
    have n55 : ¬ 55 = a := by omega
    refine ⟨upd (upd (upd (upd (upd (upd F 124 (mI M 55 1)) 125 (mI M 55 7)) 126 (mI M 55 24)) 127 (mI M 55 28)) 128 (mI M 55 31)) 129 (mI M 55 15), ?_, ?_⟩
    · simp only [isK_wF, mG_wF, mR_wF, isK_stI, mG_stI, k_55 h, hk, hg, ck_t, nm_s, stI_wF, mI_wF, n55, if_false, show inb (124 : Int32) 130 = true by decide, show (124 : Int32).toNatClampNeg = 124 from rfl, show inb (125 : Int32) 130 = true by decide, show (125 : Int32).toNatClampNeg = 125 from rfl, show inb (126 : Int32) 130 = true by decide, show (126 : Int32).toNatClampNeg = 126 from rfl, show inb (127 : Int32) 130 = true by decide, show (127 : Int32).toNatClampNeg = 127 from rfl, show inb (128 : Int32) 130 = true by decide, show (128 : Int32).toNatClampNeg = 128 from rfl, show inb (129 : Int32) 130 = true by decide, show (129 : Int32).toNatClampNeg = 129 from rfl]
    · intro j hj
      by_cases e129 : j = 129
      · subst e129
        simp [upd, sv_129]
      by_cases e128 : j = 128
      · subst e128
        simp [upd, sv_128]
      by_cases e127 : j = 127
      · subst e127
        simp [upd, sv_127]
      by_cases e126 : j = 126
      · subst e126
        simp [upd, sv_126]
      by_cases e125 : j = 125
      · subst e125
        simp [upd, sv_125]
      by_cases e124 : j = 124
      · subst e124
        simp [upd, sv_124]
      simp only [upd, e124, e125, e126, e127, e128, e129, if_false]
      exact hF j hj (by omega)
  | succ n ih =>
    intro m i F hi hF
    rw [show m + (n + 1) + 1 = (m + n + 1) + 1 by omega, gX12_keep_200_s, if_neg (by rw [show (8 : Int32) = nI 8 from rfl, leL (by omega) (by omega)]; omega)]
    have b108 : (108 : Int32) + nI i = nI (108 + i) := nI_add 108 i
    have t108 := tn (show 108 + i < 1000000 by omega)
    have i108 := inb_n (show 108 + i < 130 by omega) (by decide : 130 < 1000000)
    have n75 : ¬ 75 = a := by omega
    have b116 : (116 : Int32) + nI i = nI (116 + i) := nI_add 116 i
    have t116 := tn (show 116 + i < 1000000 by omega)
    have i116 := inb_n (show 116 + i < 130 by omega) (by decide : 130 < 1000000)
    have n76 : ¬ 76 = a := by omega
    simp only [isK_wF, mG_wF, mR_wF, isK_stI, mG_stI, mR_stI, k_55 h, hk, hg, ck_t, rb_s, nm_s, tn (show i < 1000000 by omega), inb_n (show i < 8 by omega) (by decide : 8 < 1000000), nI_1, stI_wF, mI_wF, if_false, r_55_32 h, k_75 h, g_75 h, n75, i108, b108, t108, r_55_33 h, k_76 h, g_76 h, n76, i116, b116, t116]
    exact ih m (i + 1) _ (by omega) (fun j hj hc => by
      by_cases e116 : j = 116 + i
      · subst e116
        simp only [upd, if_false, if_true]
        exact (sv_76 (by omega)).symm
      by_cases e108 : j = 108 + i
      · subst e108
        simp only [upd, show ¬ (108 + i = 116 + i) by omega, if_false, if_true]
        exact (sv_75 (by omega)).symm
      simp only [upd, e108, e116, if_false]
      exact hF j hj (by omega))
set_option maxHeartbeats 1000000 in
theorem p_kp162 {M : Mem} {a : Nat} (h : Sh M) (hka : KA M a) : ∀ (n m i : Nat) (F : Nat → Int32), i + n = 10 → (∀ j, j < 130 → (j < 88 ∨ (88 ≤ j ∧ j < 88 + i) ∨ (98 ≤ j ∧ j < 98 + i)) → F j = sv M j) → ∃ G, gX12_keep_162 (m + n + 1) (wF M a F) 55 a (nI i) = some ((), wF M a G) ∧ ∀ j, j < 130 → G j = sv M j := by
  obtain ⟨ha, hk, hg⟩ := hka
  intro n
  induction n with
  | zero =>
    intro m i F hi hF
    have : i = 10 := by omega
    subst this
    rw [gX12_keep_162_s, if_pos (by decide)]
    obtain ⟨m', hm'⟩ := FUs 8 (by decide)
    rw [hm']
    exact p_kp200 h ⟨ha, hk, hg⟩ 8 m' 0 F rfl (fun j hj hc => hF j hj (by omega))
  | succ n ih =>
    intro m i F hi hF
    rw [show m + (n + 1) + 1 = (m + n + 1) + 1 by omega, gX12_keep_162_s, if_neg (by rw [show (10 : Int32) = nI 10 from rfl, leL (by omega) (by omega)]; omega)]
    have b88 : (88 : Int32) + nI i = nI (88 + i) := nI_add 88 i
    have t88 := tn (show 88 + i < 1000000 by omega)
    have i88 := inb_n (show 88 + i < 130 by omega) (by decide : 130 < 1000000)
    have n73 : ¬ 73 = a := by omega
    have b98 : (98 : Int32) + nI i = nI (98 + i) := nI_add 98 i
    have t98 := tn (show 98 + i < 1000000 by omega)
    have i98 := inb_n (show 98 + i < 130 by omega) (by decide : 130 < 1000000)
    have n74 : ¬ 74 = a := by omega
    simp only [isK_wF, mG_wF, mR_wF, isK_stI, mG_stI, mR_stI, k_55 h, hk, hg, ck_t, rb_s, nm_s, tn (show i < 1000000 by omega), inb_n (show i < 10 by omega) (by decide : 10 < 1000000), nI_1, stI_wF, mI_wF, if_false, r_55_29 h, k_73 h, g_73 h, n73, i88, b88, t88, r_55_30 h, k_74 h, g_74 h, n74, i98, b98, t98]
    exact ih m (i + 1) _ (by omega) (fun j hj hc => by
      by_cases e98 : j = 98 + i
      · subst e98
        simp only [upd, if_false, if_true]
        exact (sv_74 (by omega)).symm
      by_cases e88 : j = 88 + i
      · subst e88
        simp only [upd, show ¬ (88 + i = 98 + i) by omega, if_false, if_true]
        exact (sv_73 (by omega)).symm
      simp only [upd, e88, e98, if_false]
      exact hF j hj (by omega))
set_option maxHeartbeats 1000000 in
theorem p_kp113 {M : Mem} {a : Nat} (h : Sh M) (hka : KA M a) : ∀ (n m i : Nat) (F : Nat → Int32), i + n = 5 → (∀ j, j < 130 → (j < 73 ∨ (73 ≤ j ∧ j < 73 + i) ∨ (78 ≤ j ∧ j < 78 + i) ∨ (83 ≤ j ∧ j < 83 + i)) → F j = sv M j) → ∃ G, gX12_keep_113 (m + n + 1) (wF M a F) 55 a (nI i) = some ((), wF M a G) ∧ ∀ j, j < 130 → G j = sv M j := by
  obtain ⟨ha, hk, hg⟩ := hka
  intro n
  induction n with
  | zero =>
    intro m i F hi hF
    have : i = 5 := by omega
    subst this
    rw [gX12_keep_113_s, if_pos (by decide)]
    obtain ⟨m', hm'⟩ := FUs 10 (by decide)
    rw [hm']
    exact p_kp162 h ⟨ha, hk, hg⟩ 10 m' 0 F rfl (fun j hj hc => hF j hj (by omega))
  | succ n ih =>
    intro m i F hi hF
    rw [show m + (n + 1) + 1 = (m + n + 1) + 1 by omega, gX12_keep_113_s, if_neg (by rw [show (5 : Int32) = nI 5 from rfl, leL (by omega) (by omega)]; omega)]
    have b73 : (73 : Int32) + nI i = nI (73 + i) := nI_add 73 i
    have t73 := tn (show 73 + i < 1000000 by omega)
    have i73 := inb_n (show 73 + i < 130 by omega) (by decide : 130 < 1000000)
    have n70 : ¬ 70 = a := by omega
    have b78 : (78 : Int32) + nI i = nI (78 + i) := nI_add 78 i
    have t78 := tn (show 78 + i < 1000000 by omega)
    have i78 := inb_n (show 78 + i < 130 by omega) (by decide : 130 < 1000000)
    have n71 : ¬ 71 = a := by omega
    have b83 : (83 : Int32) + nI i = nI (83 + i) := nI_add 83 i
    have t83 := tn (show 83 + i < 1000000 by omega)
    have i83 := inb_n (show 83 + i < 130 by omega) (by decide : 130 < 1000000)
    have n72 : ¬ 72 = a := by omega
    simp only [isK_wF, mG_wF, mR_wF, isK_stI, mG_stI, mR_stI, k_55 h, hk, hg, ck_t, rb_s, nm_s, tn (show i < 1000000 by omega), inb_n (show i < 5 by omega) (by decide : 5 < 1000000), nI_1, stI_wF, mI_wF, if_false, r_55_25 h, k_70 h, g_70 h, n70, i73, b73, t73, r_55_26 h, k_71 h, g_71 h, n71, i78, b78, t78, r_55_27 h, k_72 h, g_72 h, n72, i83, b83, t83]
    exact ih m (i + 1) _ (by omega) (fun j hj hc => by
      by_cases e83 : j = 83 + i
      · subst e83
        simp only [upd, if_false, if_true]
        exact (sv_72 (by omega)).symm
      by_cases e78 : j = 78 + i
      · subst e78
        simp only [upd, show ¬ (78 + i = 83 + i) by omega, if_false, if_true]
        exact (sv_71 (by omega)).symm
      by_cases e73 : j = 73 + i
      · subst e73
        simp only [upd, show ¬ (73 + i = 78 + i) by omega, show ¬ (73 + i = 83 + i) by omega, if_false, if_true]
        exact (sv_70 (by omega)).symm
      simp only [upd, e73, e78, e83, if_false]
      exact hF j hj (by omega))
set_option maxHeartbeats 1000000 in
theorem p_kp87 {M : Mem} {a : Nat} (h : Sh M) (hka : KA M a) : ∀ (n m i : Nat) (F : Nat → Int32), i + n = 24 → (∀ j, j < 130 → (j < 49 ∨ (49 ≤ j ∧ j < 49 + i)) → F j = sv M j) → ∃ G, gX12_keep_87 (m + n + 1) (wF M a F) 55 a (nI i) = some ((), wF M a G) ∧ ∀ j, j < 130 → G j = sv M j := by
  obtain ⟨ha, hk, hg⟩ := hka
  intro n
  induction n with
  | zero =>
    intro m i F hi hF
    have : i = 24 := by omega
    subst this
    rw [gX12_keep_87_s, if_pos (by decide)]
    obtain ⟨m', hm'⟩ := FUs 5 (by decide)
    rw [hm']
    exact p_kp113 h ⟨ha, hk, hg⟩ 5 m' 0 F rfl (fun j hj hc => hF j hj (by omega))
  | succ n ih =>
    intro m i F hi hF
    rw [show m + (n + 1) + 1 = (m + n + 1) + 1 by omega, gX12_keep_87_s, if_neg (by rw [show (24 : Int32) = nI 24 from rfl, leL (by omega) (by omega)]; omega)]
    have b49 : (49 : Int32) + nI i = nI (49 + i) := nI_add 49 i
    have t49 := tn (show 49 + i < 1000000 by omega)
    have i49 := inb_n (show 49 + i < 130 by omega) (by decide : 130 < 1000000)
    have n61 : ¬ 61 = a := by omega
    simp only [isK_wF, mG_wF, mR_wF, isK_stI, mG_stI, mR_stI, k_55 h, hk, hg, ck_t, rb_s, nm_s, tn (show i < 1000000 by omega), inb_n (show i < 24 by omega) (by decide : 24 < 1000000), nI_1, stI_wF, mI_wF, if_false, r_55_6 h, k_61 h, g_61 h, n61, i49, b49, t49]
    exact ih m (i + 1) _ (by omega) (fun j hj hc => by
      by_cases e49 : j = 49 + i
      · subst e49
        simp only [upd, if_false, if_true]
        exact (sv_61 (by omega)).symm
      simp only [upd, e49, if_false]
      exact hF j hj (by omega))
set_option maxHeartbeats 1000000 in
theorem p_kp25 {M : Mem} {a : Nat} (h : Sh M) (hka : KA M a) : ∀ (n m i : Nat) (F : Nat → Int32), i + n = 6 → (∀ j, j < 130 → (j < 25 ∨ (25 ≤ j ∧ j < 25 + i) ∨ (31 ≤ j ∧ j < 31 + i) ∨ (37 ≤ j ∧ j < 37 + i) ∨ (43 ≤ j ∧ j < 43 + i)) → F j = sv M j) → ∃ G, gX12_keep_25 (m + n + 1) (wF M a F) 55 a (nI i) = some ((), wF M a G) ∧ ∀ j, j < 130 → G j = sv M j := by
  obtain ⟨ha, hk, hg⟩ := hka
  intro n
  induction n with
  | zero =>
    intro m i F hi hF
    have : i = 6 := by omega
    subst this
    rw [gX12_keep_25_s, if_pos (by decide)]
    obtain ⟨m', hm'⟩ := FUs 24 (by decide)
    rw [hm']
    exact p_kp87 h ⟨ha, hk, hg⟩ 24 m' 0 F rfl (fun j hj hc => hF j hj (by omega))
  | succ n ih =>
    intro m i F hi hF
    rw [show m + (n + 1) + 1 = (m + n + 1) + 1 by omega, gX12_keep_25_s, if_neg (by rw [show (6 : Int32) = nI 6 from rfl, leL (by omega) (by omega)]; omega)]
    have b25 : (25 : Int32) + nI i = nI (25 + i) := nI_add 25 i
    have t25 := tn (show 25 + i < 1000000 by omega)
    have i25 := inb_n (show 25 + i < 130 by omega) (by decide : 130 < 1000000)
    have n57 : ¬ 57 = a := by omega
    have b31 : (31 : Int32) + nI i = nI (31 + i) := nI_add 31 i
    have t31 := tn (show 31 + i < 1000000 by omega)
    have i31 := inb_n (show 31 + i < 130 by omega) (by decide : 130 < 1000000)
    have n58 : ¬ 58 = a := by omega
    have b37 : (37 : Int32) + nI i = nI (37 + i) := nI_add 37 i
    have t37 := tn (show 37 + i < 1000000 by omega)
    have i37 := inb_n (show 37 + i < 130 by omega) (by decide : 130 < 1000000)
    have n59 : ¬ 59 = a := by omega
    have b43 : (43 : Int32) + nI i = nI (43 + i) := nI_add 43 i
    have t43 := tn (show 43 + i < 1000000 by omega)
    have i43 := inb_n (show 43 + i < 130 by omega) (by decide : 130 < 1000000)
    have n60 : ¬ 60 = a := by omega
    simp only [isK_wF, mG_wF, mR_wF, isK_stI, mG_stI, mR_stI, k_55 h, hk, hg, ck_t, rb_s, nm_s, tn (show i < 1000000 by omega), inb_n (show i < 6 by omega) (by decide : 6 < 1000000), nI_1, stI_wF, mI_wF, if_false, r_55_2 h, k_57 h, g_57 h, n57, i25, b25, t25, r_55_3 h, k_58 h, g_58 h, n58, i31, b31, t31, r_55_4 h, k_59 h, g_59 h, n59, i37, b37, t37, r_55_5 h, k_60 h, g_60 h, n60, i43, b43, t43]
    exact ih m (i + 1) _ (by omega) (fun j hj hc => by
      by_cases e43 : j = 43 + i
      · subst e43
        simp only [upd, if_false, if_true]
        exact (sv_60 (by omega)).symm
      by_cases e37 : j = 37 + i
      · subst e37
        simp only [upd, show ¬ (37 + i = 43 + i) by omega, if_false, if_true]
        exact (sv_59 (by omega)).symm
      by_cases e31 : j = 31 + i
      · subst e31
        simp only [upd, show ¬ (31 + i = 37 + i) by omega, show ¬ (31 + i = 43 + i) by omega, if_false, if_true]
        exact (sv_58 (by omega)).symm
      by_cases e25 : j = 25 + i
      · subst e25
        simp only [upd, show ¬ (25 + i = 31 + i) by omega, show ¬ (25 + i = 37 + i) by omega, show ¬ (25 + i = 43 + i) by omega, if_false, if_true]
        exact (sv_57 (by omega)).symm
      simp only [upd, e25, e31, e37, e43, if_false]
      exact hF j hj (by omega))
set_option maxHeartbeats 1000000 in
theorem p_kp2 {M : Mem} {a : Nat} (h : Sh M) (hka : KA M a) : ∀ (n m i : Nat) (F : Nat → Int32), i + n = 25 → (∀ j, j < 130 → (j < 0 ∨ (0 ≤ j ∧ j < 0 + i)) → F j = sv M j) → ∃ G, gX12_keep_2 (m + n + 1) (wF M a F) 55 a (nI i) = some ((), wF M a G) ∧ ∀ j, j < 130 → G j = sv M j := by
  obtain ⟨ha, hk, hg⟩ := hka
  intro n
  induction n with
  | zero =>
    intro m i F hi hF
    have : i = 25 := by omega
    subst this
    rw [gX12_keep_2_s, if_pos (by decide)]
    obtain ⟨m', hm'⟩ := FUs 6 (by decide)
    rw [hm']
    exact p_kp25 h ⟨ha, hk, hg⟩ 6 m' 0 F rfl (fun j hj hc => hF j hj (by omega))
  | succ n ih =>
    intro m i F hi hF
    rw [show m + (n + 1) + 1 = (m + n + 1) + 1 by omega, gX12_keep_2_s, if_neg (by rw [show (25 : Int32) = nI 25 from rfl, leL (by omega) (by omega)]; omega)]
    have i0 := inb_n (show i < 130 by omega) (by decide : 130 < 1000000)
    have n56 : ¬ 56 = a := by omega
    simp only [isK_wF, mG_wF, mR_wF, isK_stI, mG_stI, mR_stI, k_55 h, hk, hg, ck_t, rb_s, nm_s, tn (show i < 1000000 by omega), inb_n (show i < 25 by omega) (by decide : 25 < 1000000), nI_1, stI_wF, mI_wF, if_false, r_55_0 h, k_56 h, g_56 h, n56, i0]
    exact ih m (i + 1) _ (by omega) (fun j hj hc => by
      by_cases e0 : j = i
      · subst e0
        simp only [upd, if_false, if_true]
        have := sv_56 (M := M) (i := j) (by omega)
        rw [Nat.zero_add] at this
        exact this.symm
      simp only [upd, e0, if_false]
      exact hF j hj (by omega))
theorem p_keep {M : Mem} {a : Nat} (h : Sh M) (ha : KA M a) : ∃ G, fX12_keep M 55 a = some ((), wF M a G) ∧ ∀ j, j < 130 → G j = sv M j := by
  obtain ⟨m, hm⟩ := FUs 25 (by decide)
  have := p_kp2 h ha 25 m 0 (mI M a) rfl (fun j hj hc => by omega)
  rw [wF_self, ← hm] at this
  exact this
/-- again(), under way: where P holds it is done -/
def Ja (M : Mem) (a : Nat) (P : Nat → Prop) (N : Mem) : Prop := N.1 = M.1 ∧ N.2.2 = M.2.2 ∧ (∀ b, ¬ (55 ≤ b ∧ b ≤ 61) → ¬ (70 ≤ b ∧ b ≤ 76) → N.2.1 b = M.2.1 b) ∧ (∀ f, f ≠ 1 → f ≠ 7 → f ≠ 24 → f ≠ 28 → f ≠ 31 → f ≠ 15 → mI N 55 f = mI M 55 f) ∧ ∀ j, j < 130 → P j → sv N j = mI M a j
theorem Ja_st {M N : Mem} {a j0 : Nat} {P Q : Nat → Prop} (h : Ja M a P N) (hj : j0 < 130) (hP : ∀ j, j < 130 → Q j → j = j0 ∨ P j) : Ja M a Q (stI N (src j0).1 (src j0).2 (mI M a j0)) := by
  obtain ⟨h1, h2, h3, h4, h5⟩ := h
  have hr := src_row j0 hj
  refine ⟨h1, h2, fun b b1 b2 => ?_, fun f f1 f2 f3 f4 f5 f6 => ?_, fun j hj2 hq => ?_⟩
  · rw [stI_row_eq]
    exact (va_up_ne _ _ (by omega)).trans (h3 b b1 b2)
  · rw [mI_stI, if_neg (by omega)]
    exact h4 f f1 f2 f3 f4 f5 f6
  · unfold sv
    rw [mI_stI]
    by_cases e : (src j).1 = (src j0).1 ∧ (src j).2 = (src j0).2
    · rw [if_pos e]
      have : j = j0 := by
        rw [← csr_src j hj2, ← csr_src j0 hj, show src j = src j0 from Prod.ext e.1 e.2]
      rw [this]
    · rw [if_neg e]
      rcases hP j hj2 hq with e2 | e2
      · subst e2
        exact absurd ⟨rfl, rfl⟩ e
      · exact h5 j hj2 e2
theorem Ja_le {M N : Mem} {a : Nat} {P Q : Nat → Prop} (h : Ja M a P N) (hP : ∀ j, j < 130 → Q j → P j) : Ja M a Q N := ⟨h.1, h.2.1, h.2.2.1, h.2.2.2.1, fun j hj hq => h.2.2.2.2 j hj (hP j hj hq)⟩
theorem Ja_a {M N : Mem} {a : Nat} {P : Nat → Prop} (h : Ja M a P N) (ha : a = 78 ∨ a = 79 ∨ a = 80) (x : Nat) : mI N a x = mI M a x := congrFun (h.2.2.1 a (by omega) (by omega)) x
set_option maxHeartbeats 1000000 in
theorem p_ag200 {M : Mem} {a : Nat} (h : Sh M) (hka : KA M a) : ∀ (n m i : Nat) (N : Mem), i + n = 8 → Ja M a (fun j => (j < 108 ∨ (108 ≤ j ∧ j < 108 + i) ∨ (116 ≤ j ∧ j < 116 + i))) N → ∃ N', gX12_again_200 (m + n + 1) N 55 a (nI i) = some ((), N') ∧ Ja M a (fun _ => True) N' := by
  intro n
  induction n with
  | zero =>
    intro m i N hi hJ
    have : i = 8 := by omega
    subst this
    rw [gX12_again_200_s, if_pos (by decide)]
    obtain ⟨ha, hk, hg⟩ := id hka
    have hS := Sh_1 hJ.1 h
    have hk2 : isK N a 14 = true := by unfold isK mN mK at *; rw [hJ.1]; exact hk
    have hg2 : mG N a = 130 := by unfold mG at *; rw [hJ.1]; exact hg
    have n55 : ¬ a = 55 := by omega
    have eA := Ja_a hJ ha
    refine ⟨stI (stI (stI (stI (stI (stI N 55 1 (mI M a 124)) 55 7 (mI M a 125)) 55 24 (mI M a 126)) 55 28 (mI M a 127)) 55 31 (mI M a 128)) 55 15 (mI M a 129), ?_, ?_⟩
    · simp only [isK_stI, mG_stI, mR_stI, k_55 hS, hk2, hg2, ck_t, nm_s, mI_stI, n55, false_and, if_false, eA, show inb (124 : Int32) 130 = true by decide, show (124 : Int32).toNatClampNeg = 124 from rfl, show inb (125 : Int32) 130 = true by decide, show (125 : Int32).toNatClampNeg = 125 from rfl, show inb (126 : Int32) 130 = true by decide, show (126 : Int32).toNatClampNeg = 126 from rfl, show inb (127 : Int32) 130 = true by decide, show (127 : Int32).toNatClampNeg = 127 from rfl, show inb (128 : Int32) 130 = true by decide, show (128 : Int32).toNatClampNeg = 128 from rfl, show inb (129 : Int32) 130 = true by decide, show (129 : Int32).toNatClampNeg = 129 from rfl]
    · have g0 : Ja M a (fun j => j < 124) N := Ja_le hJ (fun j hj hc => by omega)
      have g1 := Ja_st (j0 := 124) (Q := fun j => j < 125) g0 (by decide) (fun j hj hc => by omega)
      have g2 := Ja_st (j0 := 125) (Q := fun j => j < 126) g1 (by decide) (fun j hj hc => by omega)
      have g3 := Ja_st (j0 := 126) (Q := fun j => j < 127) g2 (by decide) (fun j hj hc => by omega)
      have g4 := Ja_st (j0 := 127) (Q := fun j => j < 128) g3 (by decide) (fun j hj hc => by omega)
      have g5 := Ja_st (j0 := 128) (Q := fun j => j < 129) g4 (by decide) (fun j hj hc => by omega)
      have g6 := Ja_st (j0 := 129) (Q := fun j => j < 130) g5 (by decide) (fun j hj hc => by omega)
      exact Ja_le g6 (fun j hj hc => hj)
  | succ n ih =>
    intro m i N hi hJ
    obtain ⟨ha, hk, hg⟩ := id hka
    have hS := Sh_1 hJ.1 h
    have hk2 : isK N a 14 = true := by unfold isK mN mK at *; rw [hJ.1]; exact hk
    have hg2 : mG N a = 130 := by unfold mG at *; rw [hJ.1]; exact hg
    have eA := Ja_a hJ ha
    rw [show m + (n + 1) + 1 = (m + n + 1) + 1 by omega, gX12_again_200_s, if_neg (by rw [show (8 : Int32) = nI 8 from rfl, leL (by omega) (by omega)]; omega)]
    have b108 : (108 : Int32) + nI i = nI (108 + i) := nI_add 108 i
    have t108 := tn (show 108 + i < 1000000 by omega)
    have i108 := inb_n (show 108 + i < 130 by omega) (by decide : 130 < 1000000)
    have n75 : ¬ a = 75 := by omega
    have b116 : (116 : Int32) + nI i = nI (116 + i) := nI_add 116 i
    have t116 := tn (show 116 + i < 1000000 by omega)
    have i116 := inb_n (show 116 + i < 130 by omega) (by decide : 130 < 1000000)
    have n76 : ¬ a = 76 := by omega
    simp only [isK_stI, mG_stI, mR_stI, k_55 hS, hk2, hg2, ck_t, rb_s, nm_s, tn (show i < 1000000 by omega), inb_n (show i < 8 by omega) (by decide : 8 < 1000000), nI_1, mI_stI, false_and, if_false, eA, r_55_32 hS, k_75 hS, g_75 hS, n75, i108, b108, t108, r_55_33 hS, k_76 hS, g_76 hS, n76, i116, b116, t116]
    have g0 := Ja_st (j0 := 108 + i) (Q := fun j => (j < 108 ∨ (108 ≤ j ∧ j < 108 + i) ∨ (116 ≤ j ∧ j < 116 + i) ∨ j = 108 + i)) hJ (by omega) (fun j hj hc => by omega)
    rw [src_75 (show i < 8 by omega)] at g0
    have g1 := Ja_st (j0 := 116 + i) (Q := fun j => (j < 108 ∨ (108 ≤ j ∧ j < 108 + i) ∨ (116 ≤ j ∧ j < 116 + i) ∨ j = 108 + i ∨ j = 116 + i)) g0 (by omega) (fun j hj hc => by omega)
    rw [src_76 (show i < 8 by omega)] at g1
    exact ih m (i + 1) _ (by omega) (Ja_le g1 (fun j hj hc => by omega))
set_option maxHeartbeats 1000000 in
theorem p_ag162 {M : Mem} {a : Nat} (h : Sh M) (hka : KA M a) : ∀ (n m i : Nat) (N : Mem), i + n = 10 → Ja M a (fun j => (j < 88 ∨ (88 ≤ j ∧ j < 88 + i) ∨ (98 ≤ j ∧ j < 98 + i))) N → ∃ N', gX12_again_162 (m + n + 1) N 55 a (nI i) = some ((), N') ∧ Ja M a (fun _ => True) N' := by
  intro n
  induction n with
  | zero =>
    intro m i N hi hJ
    have : i = 10 := by omega
    subst this
    rw [gX12_again_162_s, if_pos (by decide)]
    obtain ⟨m', hm'⟩ := FUs 8 (by decide)
    rw [hm']
    exact p_ag200 h hka 8 m' 0 N rfl (Ja_le hJ (fun j hj hc => by omega))
  | succ n ih =>
    intro m i N hi hJ
    obtain ⟨ha, hk, hg⟩ := id hka
    have hS := Sh_1 hJ.1 h
    have hk2 : isK N a 14 = true := by unfold isK mN mK at *; rw [hJ.1]; exact hk
    have hg2 : mG N a = 130 := by unfold mG at *; rw [hJ.1]; exact hg
    have eA := Ja_a hJ ha
    rw [show m + (n + 1) + 1 = (m + n + 1) + 1 by omega, gX12_again_162_s, if_neg (by rw [show (10 : Int32) = nI 10 from rfl, leL (by omega) (by omega)]; omega)]
    have b88 : (88 : Int32) + nI i = nI (88 + i) := nI_add 88 i
    have t88 := tn (show 88 + i < 1000000 by omega)
    have i88 := inb_n (show 88 + i < 130 by omega) (by decide : 130 < 1000000)
    have n73 : ¬ a = 73 := by omega
    have b98 : (98 : Int32) + nI i = nI (98 + i) := nI_add 98 i
    have t98 := tn (show 98 + i < 1000000 by omega)
    have i98 := inb_n (show 98 + i < 130 by omega) (by decide : 130 < 1000000)
    have n74 : ¬ a = 74 := by omega
    simp only [isK_stI, mG_stI, mR_stI, k_55 hS, hk2, hg2, ck_t, rb_s, nm_s, tn (show i < 1000000 by omega), inb_n (show i < 10 by omega) (by decide : 10 < 1000000), nI_1, mI_stI, false_and, if_false, eA, r_55_29 hS, k_73 hS, g_73 hS, n73, i88, b88, t88, r_55_30 hS, k_74 hS, g_74 hS, n74, i98, b98, t98]
    have g0 := Ja_st (j0 := 88 + i) (Q := fun j => (j < 88 ∨ (88 ≤ j ∧ j < 88 + i) ∨ (98 ≤ j ∧ j < 98 + i) ∨ j = 88 + i)) hJ (by omega) (fun j hj hc => by omega)
    rw [src_73 (show i < 10 by omega)] at g0
    have g1 := Ja_st (j0 := 98 + i) (Q := fun j => (j < 88 ∨ (88 ≤ j ∧ j < 88 + i) ∨ (98 ≤ j ∧ j < 98 + i) ∨ j = 88 + i ∨ j = 98 + i)) g0 (by omega) (fun j hj hc => by omega)
    rw [src_74 (show i < 10 by omega)] at g1
    exact ih m (i + 1) _ (by omega) (Ja_le g1 (fun j hj hc => by omega))
set_option maxHeartbeats 1000000 in
theorem p_ag113 {M : Mem} {a : Nat} (h : Sh M) (hka : KA M a) : ∀ (n m i : Nat) (N : Mem), i + n = 5 → Ja M a (fun j => (j < 73 ∨ (73 ≤ j ∧ j < 73 + i) ∨ (78 ≤ j ∧ j < 78 + i) ∨ (83 ≤ j ∧ j < 83 + i))) N → ∃ N', gX12_again_113 (m + n + 1) N 55 a (nI i) = some ((), N') ∧ Ja M a (fun _ => True) N' := by
  intro n
  induction n with
  | zero =>
    intro m i N hi hJ
    have : i = 5 := by omega
    subst this
    rw [gX12_again_113_s, if_pos (by decide)]
    obtain ⟨m', hm'⟩ := FUs 10 (by decide)
    rw [hm']
    exact p_ag162 h hka 10 m' 0 N rfl (Ja_le hJ (fun j hj hc => by omega))
  | succ n ih =>
    intro m i N hi hJ
    obtain ⟨ha, hk, hg⟩ := id hka
    have hS := Sh_1 hJ.1 h
    have hk2 : isK N a 14 = true := by unfold isK mN mK at *; rw [hJ.1]; exact hk
    have hg2 : mG N a = 130 := by unfold mG at *; rw [hJ.1]; exact hg
    have eA := Ja_a hJ ha
    rw [show m + (n + 1) + 1 = (m + n + 1) + 1 by omega, gX12_again_113_s, if_neg (by rw [show (5 : Int32) = nI 5 from rfl, leL (by omega) (by omega)]; omega)]
    have b73 : (73 : Int32) + nI i = nI (73 + i) := nI_add 73 i
    have t73 := tn (show 73 + i < 1000000 by omega)
    have i73 := inb_n (show 73 + i < 130 by omega) (by decide : 130 < 1000000)
    have n70 : ¬ a = 70 := by omega
    have b78 : (78 : Int32) + nI i = nI (78 + i) := nI_add 78 i
    have t78 := tn (show 78 + i < 1000000 by omega)
    have i78 := inb_n (show 78 + i < 130 by omega) (by decide : 130 < 1000000)
    have n71 : ¬ a = 71 := by omega
    have b83 : (83 : Int32) + nI i = nI (83 + i) := nI_add 83 i
    have t83 := tn (show 83 + i < 1000000 by omega)
    have i83 := inb_n (show 83 + i < 130 by omega) (by decide : 130 < 1000000)
    have n72 : ¬ a = 72 := by omega
    simp only [isK_stI, mG_stI, mR_stI, k_55 hS, hk2, hg2, ck_t, rb_s, nm_s, tn (show i < 1000000 by omega), inb_n (show i < 5 by omega) (by decide : 5 < 1000000), nI_1, mI_stI, false_and, if_false, eA, r_55_25 hS, k_70 hS, g_70 hS, n70, i73, b73, t73, r_55_26 hS, k_71 hS, g_71 hS, n71, i78, b78, t78, r_55_27 hS, k_72 hS, g_72 hS, n72, i83, b83, t83]
    have g0 := Ja_st (j0 := 73 + i) (Q := fun j => (j < 73 ∨ (73 ≤ j ∧ j < 73 + i) ∨ (78 ≤ j ∧ j < 78 + i) ∨ (83 ≤ j ∧ j < 83 + i) ∨ j = 73 + i)) hJ (by omega) (fun j hj hc => by omega)
    rw [src_70 (show i < 5 by omega)] at g0
    have g1 := Ja_st (j0 := 78 + i) (Q := fun j => (j < 73 ∨ (73 ≤ j ∧ j < 73 + i) ∨ (78 ≤ j ∧ j < 78 + i) ∨ (83 ≤ j ∧ j < 83 + i) ∨ j = 73 + i ∨ j = 78 + i)) g0 (by omega) (fun j hj hc => by omega)
    rw [src_71 (show i < 5 by omega)] at g1
    have g2 := Ja_st (j0 := 83 + i) (Q := fun j => (j < 73 ∨ (73 ≤ j ∧ j < 73 + i) ∨ (78 ≤ j ∧ j < 78 + i) ∨ (83 ≤ j ∧ j < 83 + i) ∨ j = 73 + i ∨ j = 78 + i ∨ j = 83 + i)) g1 (by omega) (fun j hj hc => by omega)
    rw [src_72 (show i < 5 by omega)] at g2
    exact ih m (i + 1) _ (by omega) (Ja_le g2 (fun j hj hc => by omega))
set_option maxHeartbeats 1000000 in
theorem p_ag87 {M : Mem} {a : Nat} (h : Sh M) (hka : KA M a) : ∀ (n m i : Nat) (N : Mem), i + n = 24 → Ja M a (fun j => (j < 49 ∨ (49 ≤ j ∧ j < 49 + i))) N → ∃ N', gX12_again_87 (m + n + 1) N 55 a (nI i) = some ((), N') ∧ Ja M a (fun _ => True) N' := by
  intro n
  induction n with
  | zero =>
    intro m i N hi hJ
    have : i = 24 := by omega
    subst this
    rw [gX12_again_87_s, if_pos (by decide)]
    obtain ⟨m', hm'⟩ := FUs 5 (by decide)
    rw [hm']
    exact p_ag113 h hka 5 m' 0 N rfl (Ja_le hJ (fun j hj hc => by omega))
  | succ n ih =>
    intro m i N hi hJ
    obtain ⟨ha, hk, hg⟩ := id hka
    have hS := Sh_1 hJ.1 h
    have hk2 : isK N a 14 = true := by unfold isK mN mK at *; rw [hJ.1]; exact hk
    have hg2 : mG N a = 130 := by unfold mG at *; rw [hJ.1]; exact hg
    have eA := Ja_a hJ ha
    rw [show m + (n + 1) + 1 = (m + n + 1) + 1 by omega, gX12_again_87_s, if_neg (by rw [show (24 : Int32) = nI 24 from rfl, leL (by omega) (by omega)]; omega)]
    have b49 : (49 : Int32) + nI i = nI (49 + i) := nI_add 49 i
    have t49 := tn (show 49 + i < 1000000 by omega)
    have i49 := inb_n (show 49 + i < 130 by omega) (by decide : 130 < 1000000)
    have n61 : ¬ a = 61 := by omega
    simp only [isK_stI, mG_stI, mR_stI, k_55 hS, hk2, hg2, ck_t, rb_s, nm_s, tn (show i < 1000000 by omega), inb_n (show i < 24 by omega) (by decide : 24 < 1000000), nI_1, mI_stI, false_and, if_false, eA, r_55_6 hS, k_61 hS, g_61 hS, n61, i49, b49, t49]
    have g0 := Ja_st (j0 := 49 + i) (Q := fun j => (j < 49 ∨ (49 ≤ j ∧ j < 49 + i) ∨ j = 49 + i)) hJ (by omega) (fun j hj hc => by omega)
    rw [src_61 (show i < 24 by omega)] at g0
    exact ih m (i + 1) _ (by omega) (Ja_le g0 (fun j hj hc => by omega))
set_option maxHeartbeats 1000000 in
theorem p_ag25 {M : Mem} {a : Nat} (h : Sh M) (hka : KA M a) : ∀ (n m i : Nat) (N : Mem), i + n = 6 → Ja M a (fun j => (j < 25 ∨ (25 ≤ j ∧ j < 25 + i) ∨ (31 ≤ j ∧ j < 31 + i) ∨ (37 ≤ j ∧ j < 37 + i) ∨ (43 ≤ j ∧ j < 43 + i))) N → ∃ N', gX12_again_25 (m + n + 1) N 55 a (nI i) = some ((), N') ∧ Ja M a (fun _ => True) N' := by
  intro n
  induction n with
  | zero =>
    intro m i N hi hJ
    have : i = 6 := by omega
    subst this
    rw [gX12_again_25_s, if_pos (by decide)]
    obtain ⟨m', hm'⟩ := FUs 24 (by decide)
    rw [hm']
    exact p_ag87 h hka 24 m' 0 N rfl (Ja_le hJ (fun j hj hc => by omega))
  | succ n ih =>
    intro m i N hi hJ
    obtain ⟨ha, hk, hg⟩ := id hka
    have hS := Sh_1 hJ.1 h
    have hk2 : isK N a 14 = true := by unfold isK mN mK at *; rw [hJ.1]; exact hk
    have hg2 : mG N a = 130 := by unfold mG at *; rw [hJ.1]; exact hg
    have eA := Ja_a hJ ha
    rw [show m + (n + 1) + 1 = (m + n + 1) + 1 by omega, gX12_again_25_s, if_neg (by rw [show (6 : Int32) = nI 6 from rfl, leL (by omega) (by omega)]; omega)]
    have b25 : (25 : Int32) + nI i = nI (25 + i) := nI_add 25 i
    have t25 := tn (show 25 + i < 1000000 by omega)
    have i25 := inb_n (show 25 + i < 130 by omega) (by decide : 130 < 1000000)
    have n57 : ¬ a = 57 := by omega
    have b31 : (31 : Int32) + nI i = nI (31 + i) := nI_add 31 i
    have t31 := tn (show 31 + i < 1000000 by omega)
    have i31 := inb_n (show 31 + i < 130 by omega) (by decide : 130 < 1000000)
    have n58 : ¬ a = 58 := by omega
    have b37 : (37 : Int32) + nI i = nI (37 + i) := nI_add 37 i
    have t37 := tn (show 37 + i < 1000000 by omega)
    have i37 := inb_n (show 37 + i < 130 by omega) (by decide : 130 < 1000000)
    have n59 : ¬ a = 59 := by omega
    have b43 : (43 : Int32) + nI i = nI (43 + i) := nI_add 43 i
    have t43 := tn (show 43 + i < 1000000 by omega)
    have i43 := inb_n (show 43 + i < 130 by omega) (by decide : 130 < 1000000)
    have n60 : ¬ a = 60 := by omega
    simp only [isK_stI, mG_stI, mR_stI, k_55 hS, hk2, hg2, ck_t, rb_s, nm_s, tn (show i < 1000000 by omega), inb_n (show i < 6 by omega) (by decide : 6 < 1000000), nI_1, mI_stI, false_and, if_false, eA, r_55_2 hS, k_57 hS, g_57 hS, n57, i25, b25, t25, r_55_3 hS, k_58 hS, g_58 hS, n58, i31, b31, t31, r_55_4 hS, k_59 hS, g_59 hS, n59, i37, b37, t37, r_55_5 hS, k_60 hS, g_60 hS, n60, i43, b43, t43]
    have g0 := Ja_st (j0 := 25 + i) (Q := fun j => (j < 25 ∨ (25 ≤ j ∧ j < 25 + i) ∨ (31 ≤ j ∧ j < 31 + i) ∨ (37 ≤ j ∧ j < 37 + i) ∨ (43 ≤ j ∧ j < 43 + i) ∨ j = 25 + i)) hJ (by omega) (fun j hj hc => by omega)
    rw [src_57 (show i < 6 by omega)] at g0
    have g1 := Ja_st (j0 := 31 + i) (Q := fun j => (j < 25 ∨ (25 ≤ j ∧ j < 25 + i) ∨ (31 ≤ j ∧ j < 31 + i) ∨ (37 ≤ j ∧ j < 37 + i) ∨ (43 ≤ j ∧ j < 43 + i) ∨ j = 25 + i ∨ j = 31 + i)) g0 (by omega) (fun j hj hc => by omega)
    rw [src_58 (show i < 6 by omega)] at g1
    have g2 := Ja_st (j0 := 37 + i) (Q := fun j => (j < 25 ∨ (25 ≤ j ∧ j < 25 + i) ∨ (31 ≤ j ∧ j < 31 + i) ∨ (37 ≤ j ∧ j < 37 + i) ∨ (43 ≤ j ∧ j < 43 + i) ∨ j = 25 + i ∨ j = 31 + i ∨ j = 37 + i)) g1 (by omega) (fun j hj hc => by omega)
    rw [src_59 (show i < 6 by omega)] at g2
    have g3 := Ja_st (j0 := 43 + i) (Q := fun j => (j < 25 ∨ (25 ≤ j ∧ j < 25 + i) ∨ (31 ≤ j ∧ j < 31 + i) ∨ (37 ≤ j ∧ j < 37 + i) ∨ (43 ≤ j ∧ j < 43 + i) ∨ j = 25 + i ∨ j = 31 + i ∨ j = 37 + i ∨ j = 43 + i)) g2 (by omega) (fun j hj hc => by omega)
    rw [src_60 (show i < 6 by omega)] at g3
    exact ih m (i + 1) _ (by omega) (Ja_le g3 (fun j hj hc => by omega))
set_option maxHeartbeats 1000000 in
theorem p_ag2 {M : Mem} {a : Nat} (h : Sh M) (hka : KA M a) : ∀ (n m i : Nat) (N : Mem), i + n = 25 → Ja M a (fun j => (j < 0 ∨ (0 ≤ j ∧ j < 0 + i))) N → ∃ N', gX12_again_2 (m + n + 1) N 55 a (nI i) = some ((), N') ∧ Ja M a (fun _ => True) N' := by
  intro n
  induction n with
  | zero =>
    intro m i N hi hJ
    have : i = 25 := by omega
    subst this
    rw [gX12_again_2_s, if_pos (by decide)]
    obtain ⟨m', hm'⟩ := FUs 6 (by decide)
    rw [hm']
    exact p_ag25 h hka 6 m' 0 N rfl (Ja_le hJ (fun j hj hc => by omega))
  | succ n ih =>
    intro m i N hi hJ
    obtain ⟨ha, hk, hg⟩ := id hka
    have hS := Sh_1 hJ.1 h
    have hk2 : isK N a 14 = true := by unfold isK mN mK at *; rw [hJ.1]; exact hk
    have hg2 : mG N a = 130 := by unfold mG at *; rw [hJ.1]; exact hg
    have eA := Ja_a hJ ha
    rw [show m + (n + 1) + 1 = (m + n + 1) + 1 by omega, gX12_again_2_s, if_neg (by rw [show (25 : Int32) = nI 25 from rfl, leL (by omega) (by omega)]; omega)]
    have i0 := inb_n (show i < 130 by omega) (by decide : 130 < 1000000)
    have n56 : ¬ a = 56 := by omega
    simp only [isK_stI, mG_stI, mR_stI, k_55 hS, hk2, hg2, ck_t, rb_s, nm_s, tn (show i < 1000000 by omega), inb_n (show i < 25 by omega) (by decide : 25 < 1000000), nI_1, mI_stI, false_and, if_false, eA, r_55_0 hS, k_56 hS, g_56 hS, n56, i0]
    have g0 := Ja_st (j0 := 0 + i) (Q := fun j => (j < 0 ∨ (0 ≤ j ∧ j < 0 + i) ∨ j = i)) hJ (by omega) (fun j hj hc => by omega)
    rw [src_56 (show i < 25 by omega)] at g0
    rw [Nat.zero_add] at g0
    exact ih m (i + 1) _ (by omega) (Ja_le g0 (fun j hj hc => by omega))
theorem p_again {M : Mem} {a : Nat} (h : Sh M) (ha : KA M a) : ∃ N, fX12_again M 55 a = some ((), N) ∧ Ja M a (fun _ => True) N := by
  obtain ⟨m, hm⟩ := FUs 25 (by decide)
  have := p_ag2 h ha 25 m 0 M rfl ⟨rfl, rfl, fun _ _ _ => rfl, fun _ _ _ _ _ _ _ => rfl, fun j hj hc => by omega⟩
  rw [← hm] at this
  exact this
