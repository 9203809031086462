/-! ===== the law's loop ===== -/
/-- one call of both -/
theorem lw_i {f g : Mem → Option (Int32 × Mem)} {M : Mem} (h : Ok1 f g M) : ∃ P n, Inv P n ∧ ∀ K : Mem → Option (Unit × Mem), (bd (f M) fun x N => ck (isK N 55 12) <| bd (g N) fun y P => if x = y then K P else none) = K P := by
  obtain ⟨a, N, P, n, k, h1, h2, h3⟩ := h
  refine ⟨P, n, h3, fun K => ?_⟩
  rw [h1, bd_s, k, ck_t, h2, bd_s, if_pos rfl]
theorem lw_l {f g : Mem → Option (Int64 × Mem)} {M : Mem} (h : Ok1 f g M) : ∃ P n, Inv P n ∧ ∀ K : Mem → Option (Unit × Mem), (bd (f M) fun x N => ck (isK N 55 12) <| bd (g N) fun y P => if lg_cmp x y = 0 then K P else none) = K P := by
  obtain ⟨a, N, P, n, k, h1, h2, h3⟩ := h
  refine ⟨P, n, h3, fun K => ?_⟩
  rw [h1, bd_s, k, ck_t, h2, bd_s, if_pos ((lg_cmp_eq a a).mpr rfl)]
set_option maxHeartbeats 4000000 in
theorem law_step {M : Mem} {n i L : Nat} {xs : Nat → Int32} (hL : L ≤ 3072) (hi : 6 * i + 6 ≤ L) (h : Inv M n) (K : Mem → Nat → Nat → Int32 → Option (Unit × Mem)) : ∃ P n', Inv P n' ∧ bL_law xs L K M 0 55 (nI (6 * i)) = K P 0 55 (nI (6 * (i + 1))) := by
  have hS := h.1
  have k0 := k_0 hS
  have b0 : inb (nI (6 * i)) L = true := inb_n (by omega) (by omega)
  have e1 : nI (6 * i) + 1 = nI (6 * i + 1) := nI_1 _
  have e2 : nI (6 * i) + 2 = nI (6 * i + 2) := by rw [show (2 : Int32) = nI 2 from rfl, nI_add]
  have e3 : nI (6 * i) + 3 = nI (6 * i + 3) := by rw [show (3 : Int32) = nI 3 from rfl, nI_add]
  have e4 : nI (6 * i) + 4 = nI (6 * i + 4) := by rw [show (4 : Int32) = nI 4 from rfl, nI_add]
  have e5 : nI (6 * i) + 5 = nI (6 * i + 5) := by rw [show (5 : Int32) = nI 5 from rfl, nI_add]
  have e6 : nI (6 * i) + 6 = nI (6 * (i + 1)) := by rw [show (6 : Int32) = nI 6 from rfl, nI_add]; congr 1
  have b1 : inb (nI (6 * i + 1)) L = true := inb_n (by omega) (by omega)
  have b2 : inb (nI (6 * i + 2)) L = true := inb_n (by omega) (by omega)
  have b3 : inb (nI (6 * i + 3)) L = true := inb_n (by omega) (by omega)
  have b4 : inb (nI (6 * i + 4)) L = true := inb_n (by omega) (by omega)
  have b5 : inb (nI (6 * i + 5)) L = true := inb_n (by omega) (by omega)
  have hlt : ¬ ((Int32.ofNat L) - (6 : Int32)) < nI (6 * i) := by
    rw [Int32.lt_iff_toInt_lt, show (Int32.ofNat L - 6 : Int32) = nI L - nI 6 from rfl, pk_sub_toInt (by omega) (by omega), nI_toInt (by omega)]
    omega
  have fin : ∀ {f g : Mem → Option (Int32 × Mem)}, Ok1 f g M → ∃ P n', Inv P n' ∧ (bd (f M) fun x N => ck (isK N 55 12) <| bd (g N) fun y P => if x = y then gL_law_1315 xs L K P 0 55 (nI (6 * i)) else none) = K P 0 55 (nI (6 * (i + 1))) := by
    intro f g hh
    obtain ⟨P, n', p1, p2⟩ := lw_i hh
    refine ⟨P, n', p1, ?_⟩
    rw [p2 (fun P => gL_law_1315 xs L K P 0 55 (nI (6 * i)))]
    unfold gL_law_1315
    rw [e6]
  have finL : ∀ {f g : Mem → Option (Int64 × Mem)}, Ok1 f g M → ∃ P n', Inv P n' ∧ (bd (f M) fun x N => ck (isK N 55 12) <| bd (g N) fun y P => if lg_cmp x y = 0 then gL_law_1315 xs L K P 0 55 (nI (6 * i)) else none) = K P 0 55 (nI (6 * (i + 1))) := by
    intro f g hh
    obtain ⟨P, n', p1, p2⟩ := lw_l hh
    refine ⟨P, n', p1, ?_⟩
    rw [p2 (fun P => gL_law_1315 xs L K P 0 55 (nI (6 * i)))]
    unfold gL_law_1315
    rw [e6]
  unfold bL_law
  rw [if_neg hlt, b0, ck_t, e1, e2, e3, e4, e5, b1, b2, b3, b4, b5, k0]
  generalize xs (nI (6 * i)).toNatClampNeg &&& 63 = op
  by_cases o0 : op = 0
  · rw [if_pos o0]
    simp only [ck_t]
    exact fin (m_one h (xs (nI (6 * i + 1)).toNatClampNeg) (xs (nI (6 * i + 2)).toNatClampNeg) (xs (nI (6 * i + 3)).toNatClampNeg))
  rw [if_neg o0]
  by_cases o1 : op = 1
  · rw [if_pos o1]
    simp only [ck_t]
    exact fin (m_of h (xs (nI (6 * i + 1)).toNatClampNeg) (xs (nI (6 * i + 2)).toNatClampNeg))
  rw [if_neg o1]
  by_cases o2 : op = 2
  · rw [if_pos o2]
    simp only [ck_t]
    exact fin (m_pull h (xs (nI (6 * i + 1)).toNatClampNeg) (xs (nI (6 * i + 2)).toNatClampNeg))
  rw [if_neg o2]
  by_cases o3 : op = 3
  · rw [if_pos o3]
    simp only [ck_t]
    exact fin (m_put h (xs (nI (6 * i + 1)).toNatClampNeg) (xs (nI (6 * i + 2)).toNatClampNeg))
  rw [if_neg o3]
  by_cases o4 : op = 4
  · rw [if_pos o4]
    simp only [ck_t]
    exact fin (m_wear h (xs (nI (6 * i + 1)).toNatClampNeg) (xs (nI (6 * i + 2)).toNatClampNeg))
  rw [if_neg o4]
  by_cases o5 : op = 5
  · rw [if_pos o5]
    simp only [ck_t]
    by_cases y : xs (nI (6 * i + 2)).toNatClampNeg = 0
    · rw [if_pos y]
      unfold gL_law_378 gL_law_400
      rw [k0, ck_t, e1, e2, b1, b2]
      simp only [ck_t, if_pos y]
      exact fin (m_away h (xs (nI (6 * i + 1)).toNatClampNeg) 0 (Or.inl rfl))
    · rw [if_neg y]
      unfold gL_law_378 gL_law_400
      rw [k0, ck_t, e1, e2, b1, b2]
      simp only [ck_t, if_neg y]
      exact fin (m_away h (xs (nI (6 * i + 1)).toNatClampNeg) 1 (Or.inr rfl))
  rw [if_neg o5]
  by_cases o6 : op = 6
  · rw [if_pos o6]
    simp only [ck_t]
    exact fin (m_row h (xs (nI (6 * i + 1)).toNatClampNeg) (xs (nI (6 * i + 2)).toNatClampNeg) (xs (nI (6 * i + 3)).toNatClampNeg))
  rw [if_neg o6]
  by_cases o7 : op = 7
  · rw [if_pos o7]
    simp only [ck_t]
    exact fin (m_feed h (xs (nI (6 * i + 1)).toNatClampNeg))
  rw [if_neg o7]
  by_cases o8 : op = 8
  · rw [if_pos o8]
    simp only [ck_t]
    exact fin (m_statute h )
  rw [if_neg o8]
  by_cases o9 : op = 9
  · rw [if_pos o9]
    simp only [ck_t]
    exact fin (m_told h (xs (nI (6 * i + 1)).toNatClampNeg))
  rw [if_neg o9]
  by_cases o10 : op = 10
  · rw [if_pos o10]
    simp only [ck_t]
    exact fin (m_pass h (xs (nI (6 * i + 1)).toNatClampNeg))
  rw [if_neg o10]
  by_cases o11 : op = 11
  · rw [if_pos o11]
    simp only [ck_t]
    exact fin (m_on h (xs (nI (6 * i + 1)).toNatClampNeg) (xs (nI (6 * i + 2)).toNatClampNeg))
  rw [if_neg o11]
  by_cases o12 : op = 12
  · rw [if_pos o12]
    simp only [ck_t]
    exact fin (m_way h (xs (nI (6 * i + 1)).toNatClampNeg) (xs (nI (6 * i + 2)).toNatClampNeg) (xs (nI (6 * i + 3)).toNatClampNeg))
  rw [if_neg o12]
  by_cases o13 : op = 13
  · rw [if_pos o13]
    simp only [ck_t]
    exact fin (m_night h (xs (nI (6 * i + 1)).toNatClampNeg) (xs (nI (6 * i + 2)).toNatClampNeg))
  rw [if_neg o13]
  by_cases o14 : op = 14
  · rw [if_pos o14]
    simp only [ck_t]
    exact fin (m_see h (xs (nI (6 * i + 1)).toNatClampNeg) (xs (nI (6 * i + 2)).toNatClampNeg) (xs (nI (6 * i + 3)).toNatClampNeg))
  rw [if_neg o14]
  by_cases o15 : op = 15
  · rw [if_pos o15]
    simp only [ck_t]
    exact fin (m_from h (xs (nI (6 * i + 1)).toNatClampNeg))
  rw [if_neg o15]
  by_cases o16 : op = 16
  · rw [if_pos o16]
    simp only [ck_t]
    exact fin (m_can h (xs (nI (6 * i + 1)).toNatClampNeg) (xs (nI (6 * i + 2)).toNatClampNeg))
  rw [if_neg o16]
  by_cases o17 : op = 17
  · rw [if_pos o17]
    simp only [ck_t]
    exact finL (m_odds h (xs (nI (6 * i + 1)).toNatClampNeg) (xs (nI (6 * i + 2)).toNatClampNeg) (xs (nI (6 * i + 3)).toNatClampNeg))
  rw [if_neg o17]
  by_cases o18 : op = 18
  · rw [if_pos o18]
    simp only [ck_t]
    exact finL (m_mean h (xs (nI (6 * i + 1)).toNatClampNeg) (xs (nI (6 * i + 2)).toNatClampNeg))
  rw [if_neg o18]
  by_cases o19 : op = 19
  · rw [if_pos o19]
    simp only [ck_t]
    exact fin (m_plan h (xs (nI (6 * i + 1)).toNatClampNeg) (xs (nI (6 * i + 2)).toNatClampNeg))
  rw [if_neg o19]
  by_cases o20 : op = 20
  · rw [if_pos o20]
    simp only [ck_t]
    exact fin (m_ends h (xs (nI (6 * i + 1)).toNatClampNeg))
  rw [if_neg o20]
  by_cases o21 : op = 21
  · rw [if_pos o21]
    simp only [ck_t]
    exact fin (m_book h (xs (nI (6 * i + 1)).toNatClampNeg) (xs (nI (6 * i + 2)).toNatClampNeg))
  rw [if_neg o21]
  by_cases o22 : op = 22
  · rw [if_pos o22]
    simp only [ck_t]
    exact fin (m_looked h )
  rw [if_neg o22]
  by_cases o23 : op = 23
  · rw [if_pos o23]
    simp only [ck_t]
    exact fin (m_judge h (xs (nI (6 * i + 1)).toNatClampNeg) (xs (nI (6 * i + 2)).toNatClampNeg))
  rw [if_neg o23]
  by_cases o24 : op = 24
  · rw [if_pos o24]
    simp only [ck_t]
    exact fin (m_image h )
  rw [if_neg o24]
  by_cases o25 : op = 25
  · rw [if_pos o25]
    simp only [ck_t]
    exact fin (m_undo h )
  rw [if_neg o25]
  by_cases o26 : op = 26
  · rw [if_pos o26]
    simp only [ck_t]
    exact fin (m_act h (xs (nI (6 * i + 1)).toNatClampNeg) (xs (nI (6 * i + 2)).toNatClampNeg) (xs (nI (6 * i + 3)).toNatClampNeg))
  rw [if_neg o26]
  by_cases o27 : op = 27
  · rw [if_pos o27]
    simp only [ck_t]
    exact fin (m_trace h (xs (nI (6 * i + 1)).toNatClampNeg))
  rw [if_neg o27]
  by_cases o28 : op = 28
  · rw [if_pos o28]
    simp only [ck_t]
    exact fin (m_taken h (xs (nI (6 * i + 1)).toNatClampNeg) (xs (nI (6 * i + 2)).toNatClampNeg))
  rw [if_neg o28]
  by_cases o29 : op = 29
  · rw [if_pos o29]
    simp only [ck_t]
    exact fin (m_count h (xs (nI (6 * i + 1)).toNatClampNeg))
  rw [if_neg o29]
  by_cases o30 : op = 30
  · rw [if_pos o30]
    simp only [ck_t]
    exact fin (m_tape h (xs (nI (6 * i + 1)).toNatClampNeg) (xs (nI (6 * i + 2)).toNatClampNeg) (xs (nI (6 * i + 3)).toNatClampNeg))
  rw [if_neg o30]
  by_cases o31 : op = 31
  · rw [if_pos o31]
    simp only [ck_t]
    exact fin (m_item h (xs (nI (6 * i + 1)).toNatClampNeg) (xs (nI (6 * i + 2)).toNatClampNeg) ((((xs (nI (6 * i + 3)).toNatClampNeg).toInt64) <<< ((32 : Int32).toInt64 &&& 63)) ||| (((xs (nI (6 * i + 4)).toNatClampNeg).toInt64) &&& (4294967295 : Int64))))
  rw [if_neg o31]
  by_cases o32 : op = 32
  · rw [if_pos o32]
    simp only [ck_t]
    exact finL (m_read h (xs (nI (6 * i + 1)).toNatClampNeg) (xs (nI (6 * i + 2)).toNatClampNeg))
  rw [if_neg o32]
  by_cases o33 : op = 33
  · rw [if_pos o33]
    simp only [ck_t]
    exact fin (m_shift h (xs (nI (6 * i + 1)).toNatClampNeg) (xs (nI (6 * i + 2)).toNatClampNeg) (xs (nI (6 * i + 3)).toNatClampNeg) (xs (nI (6 * i + 4)).toNatClampNeg) (xs (nI (6 * i + 5)).toNatClampNeg))
  rw [if_neg o33]
  refine ⟨M, n, h, ?_⟩
  unfold gL_law_1315
  rw [e6]
theorem law_loop {L : Nat} {xs : Nat → Int32} (hL : L ≤ 3072) : ∀ (k m i n : Nat) (M : Mem), i + k = L / 6 → Inv M n → ∃ N, gL_law xs L (m + k + 1) M 0 55 (nI (6 * i)) = some ((), N) := by
  intro k
  induction k with
  | zero =>
    intro m i n M hi h
    have hlt : ((Int32.ofNat L) - (6 : Int32)) < nI (6 * i) := by
      rw [Int32.lt_iff_toInt_lt, show (Int32.ofNat L - 6 : Int32) = nI L - nI 6 from rfl, pk_sub_toInt (by omega) (by omega), nI_toInt (by omega)]
      omega
    refine ⟨M, ?_⟩
    rw [gL_law_s]
    unfold bL_law
    rw [if_pos hlt]
  | succ k ih =>
    intro m i n M hi h
    obtain ⟨P, n', p1, p2⟩ := law_step (xs := xs) hL (show 6 * i + 6 ≤ L by omega) h (gL_law xs L (m + k + 1))
    obtain ⟨N, hN⟩ := ih m (i + 1) n' P (by omega) p1
    exact ⟨N, by rw [show m + (k + 1) + 1 = (m + k + 1) + 1 by omega, gL_law_s, p2]; exact hN⟩
/-- the law's run, as a function, never fails -/
theorem law_pure (xs : Nat → Int32) (L : Nat) (hL : L ≤ 3072) : ∃ N, fL_law xs L = some ((), N) := by
  obtain ⟨M2, a1, a2⟩ := init_c
  obtain ⟨M3, b1, b2⟩ := init_m a2
  have n2 : mN M2 = 55 := a2.1.trans (by decide)
  obtain ⟨N, hN⟩ := law_loop (xs := xs) hL (L / 6) (599 - L / 6) 0 0 M3 (by omega) (Inv_first b2)
  rw [show 599 - L / 6 + L / 6 + 1 = 600 by omega] at hN
  refine ⟨N, ?_⟩
  unfold fL_law
  rw [a1, bd_s, n2, b1, bd_s]
  exact hN
