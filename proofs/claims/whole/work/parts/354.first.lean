/-! ===== the first memory holds the invariant ===== -/
theorem tR_m : ∀ q, q ∈ tR → rlk RLm q.1 q.2.1 = some q.2.2 := by decide +kernel
theorem tK_m : ∀ q, q ∈ tK → (KLm[q.1]?).map (fun p => p.1) = some q.2 := by decide +kernel
theorem tG_m : ∀ q, q ∈ tG → (KLm[q.1]?).map (fun p => p.2) = some q.2 := by decide +kernel
theorem Sh_first {M : Mem} (h : Ds M KLm RLm ILm) : Sh M := by
  refine ⟨by rw [h.1]; decide, fun q hq => by rw [h.2.2.1]; exact tR_m q hq, fun q hq => ?_, fun q hq => ?_⟩
  · have := tK_m q hq
    cases e : KLm[q.1]? with
    | none => rw [e] at this; cases this
    | some p =>
      rw [e] at this
      have e2 : p.1 = q.2 := Option.some.inj this
      exact ds_k h (g := p.2) (by rw [e, ← e2])
  · have := tG_m q hq
    cases e : KLm[q.1]? with
    | none => rw [e] at this; cases this
    | some p =>
      rw [e] at this
      have e2 : p.2 = q.2 := Option.some.inj this
      rw [← e2]
      exact (h.2.1 _ _ e).2
theorem Inv_first {M : Mem} (h : Ds M KLm RLm ILm) : Inv M 0 := by
  have hS := Sh_first h
  have I : ∀ a i, mI M a i = ilk ILm a i := h.2.2.2.1
  have w56 : ∀ i, i < 25 → mI M 56 i = 5 := fun i hi => (I 56 i).trans (if_pos hi)
  have w32 : ∀ i, i < 25 → mI M 32 i = 5 := fun i hi => (I 32 i).trans (if_pos hi)
  have hc : hC M 31 = hM M := by
    funext k i
    show hx M 32 31 2 4 k i = hx M 56 55 7 1 k i
    unfold hx
    by_cases hi : i < hsz k
    · rw [if_pos hi, if_pos hi]
      rcases hsz_k hi with ⟨rfl, g⟩ | ⟨rfl, g⟩ | ⟨rfl, g⟩ | ⟨rfl, g⟩ | ⟨rfl, g⟩ | ⟨rfl, g⟩ | ⟨rfl, g⟩
      · rw [if_neg (by decide), if_neg (by decide)]
        exact (w32 i g).trans (w56 i g).symm
      · rw [if_neg (by decide), if_neg (by decide)]
        exact (I 33 i).trans (I 57 i).symm
      · rw [if_neg (by decide), if_neg (by decide)]
        exact (I 34 i).trans (I 58 i).symm
      · rw [if_neg (by decide), if_neg (by decide)]
        exact (I 35 i).trans (I 59 i).symm
      · rw [if_neg (by decide), if_neg (by decide)]
        exact (I 36 i).trans (I 60 i).symm
      · rw [if_neg (by decide), if_neg (by decide)]
        exact (I 37 i).trans (I 61 i).symm
      · rw [if_pos rfl, if_pos rfl, I 31 2, I 55 7, I 31 4, I 55 1]
        rfl
    · rw [if_neg hi, if_neg hi]
  have hb : Hb 9999 (hM M) := by
    refine ⟨⟨⟨0, by omega, (I 55 1).trans rfl⟩, ⟨0, by omega, (I 55 7).trans rfl⟩, fun i hi => ⟨5, by omega, ?_⟩, fun i hi => ⟨0, by omega, ?_⟩, fun i hi => ⟨0, by omega, ?_⟩, fun i hi => Or.inl ?_⟩, ⟨0, by omega, (I 55 7).trans rfl⟩⟩
    · rw [← hM_0 hi]
      exact w56 i hi
    · rw [← hM_1 hi]
      exact (I 57 i).trans rfl
    · rw [← hM_3 hi]
      exact (I 59 i).trans rfl
    · rw [← hM_4 hi]
      exact (I 60 i).trans rfl
  have hz : Hz (hM M) := by
    refine ⟨0, by omega, (I 55 1).trans rfl, fun p _ p6 => ⟨?_, fun i hi => ?_⟩⟩
    · rw [← hM_4 p6]
      exact (I 60 p).trans rfl
    · rw [← hM_5 (by omega)]
      exact (I 61 _).trans rfl
  have law : ∃ lw : Law, ∃ bv, bv ≤ 99 ∧ Sqh M 29 lw (nI bv) ∧ Mqh M (-1) lw (nI bv) := by
    have l6 : Law6 (fun F => lsum F [] 0) := fun F G _ => rfl
    refine ⟨fun F => lsum F [] 0, 95, by omega, ⟨k_29 hS, (I 29 2).trans rfl, l6, k_30 hS, g_30 hS, r_29_0 hS, by omega, fun N f n1 n2 n3 n4 n5 n6 n7 n8 => ?_⟩, l6, fun N hN hj _ _ _ => ⟨?_, fun p c hp hcc => ⟨mI N 69, ?_⟩⟩⟩
    · refine c_draws (ss := []) ⟨n1, n2, n3, n4, by decide, ?_, fun i hi => absurd hi (Nat.not_lt_zero _), n7, n8⟩ (cl := []) (fun c hh => by cases hh) rfl
      have : mI N 29 1 = mI M 29 1 := congrFun n5 1
      rw [this, I 29 1]
      rfl
    · obtain ⟨m, hm⟩ := FUs 0 (by decide)
      unfold fX12_baldFrom
      rw [hm, gX12_baldFrom_5_s, k_55 hN, ck_t, hj, if_pos rfl]
      rfl
    · obtain ⟨m, hm⟩ := FUs 0 (by decide)
      unfold fX12_sum
      rw [k_55 hN, ck_t, r_55_0 hN, rb_s, k_56 hN, ck_t, g_56 hN, inb_n hcc (by decide), ck_t, tn (show c < 1000000 by omega), hM_0 hcc, hm, gX12_sum_10_s, k_55 hN, ck_t, hj, if_pos rfl, wF_self]
      show some (hM N 0 c, N) = some (hM N 0 c + 0, N)
      rw [Int32.add_zero]
  refine ⟨hS, ⟨by rw [← hM_hV]; exact hc, by rw [← hM_hV]; exact hb, by rw [← hM_hV]; exact hz, ⟨0, by omega, (h.2.2.1 31 1).trans rfl, (I 55 15).trans rfl⟩, ⟨0, by omega, (I 1 2).trans rfl, (I 55 24).trans rfl, fun i hi => ?_, fun i hi => absurd hi (Nat.not_lt_zero _)⟩, ⟨0, by omega, (I 3 2).trans rfl, (I 55 28).trans rfl, fun i hi => ?_, fun i hi => absurd hi (Nat.not_lt_zero _)⟩, ⟨0, by omega, (I 5 2).trans rfl, (I 55 31).trans rfl, fun i hi => ?_, fun i hi => absurd hi (Nat.not_lt_zero _)⟩⟩, ⟨by omega, (I 0 13).trans rfl, (I 55 14).trans rfl, ?_, (h.2.2.1 0 12).trans rfl, ⟨ds_k h (a := 14) (c := 7) (g := 0) rfl, (h.2.2.1 14 0).trans rfl, ds_k h (a := 15) (c := 14) (g := 100) rfl, ds_g h (a := 15) (c := 14) (g := 100) rfl⟩, ⟨0, by omega, (I 55 22).trans rfl⟩, fun k hk => ?_⟩, ⟨(I 1 0).trans rfl, (I 3 0).trans rfl, (I 5 0).trans rfl⟩, ⟨0, by omega, (I 0 11).trans rfl, (I 55 8).trans rfl, fun i hi => absurd hi (Nat.not_lt_zero _)⟩, ⟨0, by omega, (I 16 2).trans rfl, (I 55 34).trans rfl, fun i _ hi => absurd hi (Nat.not_lt_zero _)⟩, fun t ht => ?_, Or.inl ⟨(I 0 5).trans rfl, (I 55 36).trans rfl⟩⟩
  · rw [sv_70 hi, sv_71 hi, sv_72 hi, I 70 i, I 71 i, I 72 i]
    exact ⟨(I 2 _).trans rfl, (I 2 _).trans rfl, (I 2 _).trans rfl⟩
  · rw [sv_73 hi, sv_74 hi, I 73 i, I 74 i]
    exact ⟨(I 4 _).trans rfl, (I 4 _).trans rfl⟩
  · rw [sv_75 hi, sv_76 hi, I 75 i, I 76 i]
    exact ⟨(I 6 _).trans rfl, (I 6 _).trans rfl⟩
  · rw [h.1]
    decide
  · have k0 : k = 0 := by omega
    subst k0
    exact law
  · have e1 : mI M 18 t = -1 := (I 18 t).trans (if_pos ht)
    have e2 : mI M 82 t = -1 := (I 82 t).trans (if_pos ht)
    exact ⟨e1.trans e2.symm, Or.inl e1⟩
