/-! ===== feed ===== -/
theorem m_feed {M : Mem} {n : Nat} (h : Inv M n) (x : Int32) : Ok1 (fun M => fX11_feed M 0 x) (fun M => fX12_feed M 55 x) M := by
  have hS := h.1
  obtain ⟨t, t100, e1, e2, er⟩ := h.2.2.2.2.1
  rcases rng (L := 128) (K := 127) (n := 128) x rfl rfl (by decide) with ⟨b, hb, rfl, h1, h2, h3, h4, h5⟩ | h1 | ⟨h1, h2, h3, h4, h5⟩
  · by_cases g : t = 100
    · subst g
      refine Ok_m h (a := -4) ?_ ?_
      · simp only [fX11_feed, h1, h3, if_true, if_false, k_0 hS, ck_t, e1]
        rw [if_neg (by decide)]
      · simp only [fX12_feed, wi_1 (L := 0) h1 h5, bd_s, n10, if_false, k_55 hS, ck_t, e2]
        rw [if_pos (by decide)]
    · have tl : t < 100 := by omega
      have it := inb_n tl (by decide : 100 < 1000000)
      have tt := tn (show t < 1000000 by omega)
      have eb : (nI b).toInt8.toInt32.toInt8.toInt32 = nI b := by rw [(b_8 b hb).1, (b_8 b hb).1]
      obtain ⟨A, eA⟩ : ∃ A, A = stI (stI M 13 t (nI b)) 0 11 (nI (t + 1)) := ⟨_, rfl⟩
      have hSA : Sh A := by rw [eA]; exact Sh_1 rfl hS
      have rA : ∀ r, r ≠ 0 → r ≠ 13 → A.2.1 r = M.2.1 r := fun r r1 r2 => by rw [eA, row_st r1, row_st r2]
      have rAI : ∀ r i, r ≠ 0 → r ≠ 13 → mI A r i = mI M r i := fun r i r1 r2 => congrFun (rA r r1 r2) i
      have u11 : mI (stI M 13 t (nI b)) 0 11 = nI t := by rw [mI_stI, if_neg (by omega)]; exact e1
      have A11 : mI A 0 11 = nI (t + 1) := by rw [eA, mI_stI, if_pos ⟨rfl, rfl⟩]
      have e2A : mI A 55 8 = nI t := (rAI 55 8 (by decide) (by decide)).trans e2
      obtain ⟨B, eB⟩ : ∃ B, B = stI (stI A 55 8 (nI (t + 1))) 62 t (nI b) := ⟨_, rfl⟩
      have B8 : mI B 55 8 = nI (t + 1) := by rw [eB, mI_stI, if_neg (by omega), mI_stI, if_pos ⟨rfl, rfl⟩]
      have rB : ∀ r, r ≠ 0 → r ≠ 13 → r ≠ 55 → r ≠ 62 → B.2.1 r = M.2.1 r := fun r r1 r2 r3 r4 => by rw [eB, row_st r4, row_st r3]; exact rA r r1 r2
      have rBI : ∀ r i, r ≠ 0 → r ≠ 13 → r ≠ 55 → r ≠ 62 → mI B r i = mI M r i := fun r i r1 r2 r3 r4 => congrFun (rB r r1 r2 r3 r4) i
      have r0 : ∀ f, f ≠ 11 → mI B 0 f = mI M 0 f := fun f hf => by
        rw [eB, mI_stI, if_neg (by omega), mI_stI, if_neg (by omega), eA, mI_stI, if_neg (by omega), mI_stI, if_neg (by omega)]
      have r5 : ∀ f, f ≠ 8 → mI B 55 f = mI M 55 f := fun f hf => by
        rw [eB, mI_stI, if_neg (by omega), mI_stI, if_neg (by omega)]
        exact rAI _ _ (by decide) (by decide)
      refine ⟨nI (t + 1), A, B, n, k_55 hSA, ?_, ?_, Inv_x h (by rw [eB, eA]; rfl) (fun r hr => rB r (by omega) (by omega) (by omega) (by omega)) (fun f hf => r0 f (by omega)) (fun f f1 _ => r5 f f1) ⟨t + 1, by omega, ?_, B8, fun i hi => ?_⟩ (IDeed_c h.2.2.2.2.2.1 (r5 _ (by decide)) (fun b hb => rB b (by omega) (by omega) (by omega) (by omega))) (ITape_c h.2.2.2.2.2.2.1 (by rw [eB, eA]; rfl) (fun b hb => rB b (by omega) (by omega) (by omega) (by omega)))⟩
      · show fX11_feed M 0 (nI b) = _
        unfold fX11_feed
        rw [if_neg h1, if_pos h3, k_0 hS, ck_t, e1, if_pos (by rw [show (100 : Int32) = nI 100 from rfl, ltL (by omega) (by omega)]; exact tl), r_0_10 hS, rb_s, k_13 hS, ck_t, g_13 hS, it, ck_t, nm_s, tt, eb, u11, nI_1, ← eA, k_0 hSA, ck_t, A11]
      · show fX12_feed A 55 (nI b) = _
        unfold fX12_feed
        rw [wi_1 (L := 0) h1 h5, bd_s, if_neg n10, k_55 hSA, ck_t, e2A, if_neg (by rw [show (100 : Int32) = nI 100 from rfl, eqL (by omega) (by omega)]; exact g), r_55_9 hSA, rb_s, k_62 hSA, ck_t, g_62 hSA, it, ck_t, tt, nI_1, ← eB, B8]
      · rw [eB, mI_stI, if_neg (by omega), mI_stI, if_neg (by omega)]
        exact A11
      · by_cases g2 : i = t
        · subst g2
          refine ⟨b, hb, ?_, ?_⟩
          · rw [eB, mI_stI, if_neg (by omega), mI_stI, if_neg (by omega), eA, mI_stI, if_neg (by omega), mI_stI, if_pos ⟨rfl, rfl⟩]
          · rw [eB, mI_stI, if_pos ⟨rfl, rfl⟩]
        · obtain ⟨c, c1, c2, c3⟩ := er i (by omega)
          refine ⟨c, c1, ?_, ?_⟩
          · rw [eB, mI_stI, if_neg (by omega), mI_stI, if_neg (by omega), eA, mI_stI, if_neg (by omega), mI_stI, if_neg (by omega)]
            exact c2
          · rw [eB, mI_stI, if_neg (by omega), mI_stI, if_neg (by omega)]
            exact (rAI 62 i (by decide) (by decide)).trans c3
  · refine Ok_m h (a := -2) ?_ ?_
    · simp only [fX11_feed, h1, if_true]
    · simp only [fX12_feed, wi_0 h1, bd_s, if_true]
  · refine Ok_m h (a := -2) ?_ ?_
    · simp only [fX11_feed, h1, h3, if_false]
    · simp only [fX12_feed, wi_2 h5, bd_s, if_true]
/-! ===== what a new statute leaves ===== -/
theorem pFrom_in {t : Nat} {tx : Nat → Nat} (ht : ∀ i, i < t → tx i < 128) : ∀ (n a : Nat) (cl : List Cl), a ≤ t → (∀ c, c ∈ cl → ClOk c) → cl.length + n ≤ 10 → (pFrom t tx n a cl).2.1 ≤ t ∧ ((pFrom t tx n a cl).1 = true → (∀ c, c ∈ (pFrom t tx n a cl).2.2 → ClOk c) ∧ (pFrom t tx n a cl).2.2.length ≤ 10) := by
  intro n
  induction n with
  | zero => intro a cl h _ _; exact ⟨h, fun q => by cases q⟩
  | succ n ih =>
    intro a cl h hc hl
    obtain ⟨p1, p2, p3⟩ := pClause_in (tx := tx) ht h
    unfold pFrom
    by_cases g : (pClause t tx a).1 = true
    · obtain ⟨o1, o2, o3, o4⟩ := p3 g
      have hc2 : ∀ c, c ∈ cl ++ [(pClause t tx a).2.2] → ClOk c := fun c hh => (List.mem_append.mp hh).elim (hc c) (fun q => by rw [List.mem_singleton] at q; rw [q]; exact o1)
      have l1 : (cl ++ [(pClause t tx a).2.2]).length = cl.length + 1 := by rw [List.length_append]; rfl
      rw [if_pos g]
      by_cases g1 : nx t tx (pClause t tx a).2.1 = -1
      · rw [if_pos g1]
        exact ⟨p2, fun _ => ⟨hc2, by show (cl ++ [(pClause t tx a).2.2]).length ≤ 10; rw [l1]; omega⟩⟩
      · rw [if_neg g1]
        by_cases g2 : nx t tx (pClause t tx a).2.1 = 59
        · rw [if_pos g2]
          by_cases g3 : n = 0
          · rw [if_pos g3]
            exact ⟨p2, fun q => by cases q⟩
          · rw [if_neg g3]
            have := nx_lt g1
            exact ih _ _ (by omega) hc2 (by rw [l1]; omega)
        · rw [if_neg g2]
          exact ⟨p2, fun q => by cases q⟩
    · rw [if_neg g]
      exact ⟨p2, fun q => by cases q⟩
theorem clsB_n : ∀ (cl : List Cl) (b : Nat), b ≤ 99 → (∀ c, c ∈ cl → ClOk c) → ∃ k, k ≤ 99 ∧ clsB (nI b) cl = nI k := by
  intro cl
  induction cl with
  | nil => intro b hb _; exact ⟨b, hb, rfl⟩
  | cons c cl ih =>
    intro b hb hc
    show ∃ k, k ≤ 99 ∧ clsB (clB (nI b) c) cl = nI k
    unfold clB
    by_cases g : c.1 = 2
    · rw [if_pos g]
      exact ih c.2.1 (hc c List.mem_cons_self).2.1 (fun d hd => hc d (List.mem_cons_of_mem _ hd))
    · rw [if_neg g]
      exact ih b hb (fun d hd => hc d (List.mem_cons_of_mem _ hd))
theorem sid_f {k n : Nat} (hk : k ≤ n) (hn : n < 6) : sidO k ≠ sidO (n + 1) ∧ sidO k ≠ sidO (n + 1) + 1 ∧ sidO k + 1 ≠ sidO (n + 1) ∧ sidO k + 1 < 85 + 2 * n ∧ (sidO k = 29 ∨ sidO k = 14 ∨ 85 ≤ sidO k) := by
  unfold sidO
  rw [if_neg (show ¬ n + 1 = 0 by omega)]
  by_cases h0 : k = 0
  · rw [if_pos h0]
    by_cases h1 : n + 1 = 1
    · rw [if_pos h1]
      omega
    · rw [if_neg h1]
      omega
  · rw [if_neg h0]
    by_cases h1 : k = 1
    · rw [if_pos h1, if_neg (show ¬ n + 1 = 1 by omega)]
      omega
    · rw [if_neg h1, if_neg (show ¬ n + 1 = 1 by omega)]
      omega
theorem sid_s {n : Nat} (hn : n < 6) : (n = 0 ∧ sidO (n + 1) = 14) ∨ (1 ≤ n ∧ sidO (n + 1) = 83 + 2 * n) := by
  unfold sidO
  rw [if_neg (show ¬ n + 1 = 0 by omega)]
  by_cases h1 : n + 1 = 1
  · rw [if_pos h1]
    omega
  · rw [if_neg h1]
    omega
theorem tR_o : ∀ q, q ∈ tR → q.1 < 85 ∧ ¬ ((q.1 = 31 ∨ q.1 = 39 ∨ q.1 = 47) ∧ q.2.1 = 1) ∧ ¬ (q.1 = 0 ∧ q.2.1 = 12) ∧ ¬ (q.1 = 14) := by decide
theorem tK_o : ∀ q, q ∈ tK → q.1 < 85 := by decide
theorem tG_o : ∀ q, q ∈ tG → q.1 < 85 := by decide
theorem Sh_g {M N : Mem} (h : Sh M) (hn : mN M ≤ mN N) (hk : ∀ a, a < 85 → mK N a = mK M a) (hg : ∀ a, a < 85 → mG N a = mG M a) (hr : ∀ a i, a < 85 → ¬ ((a = 31 ∨ a = 39 ∨ a = 47) ∧ i = 1) → ¬ (a = 0 ∧ i = 12) → ¬ (a = 14) → mR N a i = mR M a i) : Sh N := by
  obtain ⟨h1, h2, h3, h4⟩ := h
  refine ⟨by omega, fun q hq => ?_, fun q hq => ?_, fun q hq => ?_⟩
  · obtain ⟨a1, a2, a3, a4⟩ := tR_o q hq
    rw [hr _ _ a1 a2 a3 a4]
    exact h2 q hq
  · have a1 := tK_o q hq
    have := isK_of (h3 q hq)
    unfold isK
    rw [hk _ a1, decide_eq_true (show q.1 < mN N by omega), decide_eq_true this.2]
    rfl
  · rw [hg _ (tG_o q hq)]
    exact h4 q hq
theorem Mqh_r {M Q : Mem} {j bv : Int32} {lw : Law} {n n' cd cd' : Nat} (h : Mqh M j lw bv) (e14 : mI M 55 14 = nI n) (e14' : mI Q 55 14 = nI n') (e22 : mI M 55 22 = nI cd) (e22' : mI Q 55 22 = nI cd') (hn : n ≤ n') (hn6 : n' ≤ 6) (hc : cd ≤ cd') (hcb : cd' ≤ 1000) (r63 : ∀ i, i < n → mI Q 63 i = mI M 63 i) (r : ∀ b i, 64 ≤ b → b ≤ 67 → i < 10 * n → mI Q b i = mI M b i) (r68 : ∀ i, i < cd → mI Q 68 i = mI M 68 i) : Mqh Q j lw bv := by
  refine ⟨h.1, fun P hS hj h63 hw hcc => h.2 P hS hj (fun i hi => ?_) (fun b i b1 b2 hi => ?_) (fun i hi => ?_)⟩
  · rw [e14, tn (by omega)] at hi
    exact (h63 i (by rw [e14', tn (by omega)]; omega)).trans (r63 i hi)
  · rw [e14, tn (by omega)] at hi
    exact (hw b i b1 b2 (by rw [e14', tn (by omega)]; omega)).trans (r b i b1 b2 hi)
  · rw [e22, tn (by omega)] at hi
    exact (hcc i (by rw [e22', tn (by omega)]; omega)).trans (r68 i hi)
theorem ITape_e {M N : Mem} (h : ITape M) (el : ∀ b, b = 20 ∨ b = 84 → N.2.2 b = M.2.2 b) (er : ∀ b, b = 18 ∨ b = 19 ∨ b = 82 ∨ b = 83 → N.2.1 b = M.2.1 b) : ITape N := by
  intro t ht
  have := h t ht
  unfold mI mL at *
  rw [er 18 (by omega), er 19 (by omega), er 82 (by omega), er 83 (by omega), el 20 (by omega), el 84 (by omega)]
  exact this
theorem St_n {M : Mem} {o a b c n n' : Nat} {S : Nat → Int32} (h : St M o a b c S n) (hn : n ≤ n') : St M o a b c S n' := by
  obtain ⟨h1, h2, h3, ⟨k, k1, k2, k3⟩, h5⟩ := h
  exact ⟨h1, h2, h3, ⟨k, by omega, k2, k3⟩, h5⟩
theorem Inv_st {M Q : Mem} {n n' s : Nat} (h : Inv M n) (hn : n ≤ n') (hs : s = 14 ∨ 85 ≤ s) (sh : Sh Q) (r : ∀ b, b < 85 → b ≠ 0 → b ≠ s → b ≠ s + 1 → b ≠ 55 → ¬ (63 ≤ b ∧ b ≤ 68) → Q.2.1 b = M.2.1 b) (r0 : ∀ f, f ≠ 11 → f ≠ 13 → mI Q 0 f = mI M 0 f) (r5 : ∀ f, f ≠ 8 → f ≠ 10 → f ≠ 11 → f ≠ 12 → f ≠ 13 → f ≠ 14 → f ≠ 15 → f ≠ 22 → mI Q 55 f = mI M 55 f) (el : ∀ b, b = 20 ∨ b = 84 → Q.2.2 b = M.2.2 b) (e47 : mR Q 47 1 = mR M 47 1) (kl : ∃ k, k ≤ n' ∧ mR Q 31 1 = some (sidO k) ∧ mI Q 55 15 = hI k) (kt : IText Q) (kw : ILaw Q n') : Inv Q n' := by
  obtain ⟨h1, h2, h3, h4, h5, h6, h7, h8⟩ := h
  have rI : ∀ b i, b < 85 → b ≠ 0 → b ≠ s → b ≠ s + 1 → b ≠ 55 → ¬ (63 ≤ b ∧ b ≤ 68) → mI Q b i = mI M b i := fun b i c1 c2 c3 c4 c5 c6 => congrFun (r b c1 c2 c3 c4 c5 c6) i
  have f5 : ∀ f, f = 1 ∨ f = 7 ∨ f = 24 ∨ f = 28 ∨ f = 31 ∨ f = 34 ∨ f = 36 → mI Q 55 f = mI M 55 f := fun f hf => r5 f (by omega) (by omega) (by omega) (by omega) (by omega) (by omega) (by omega) (by omega)
  have eh : hV (sv Q) = hV (sv M) := by
    rw [← hM_hV, ← hM_hV]
    exact hM_c (fun b b1 b2 => r b (by omega) (by omega) (by omega) (by omega) (by omega) (by omega)) (f5 7 (by omega)) (f5 1 (by omega))
  obtain ⟨g1, g2, g3, -, gs, gp, gb⟩ := id h2
  refine ⟨sh, ⟨?_, by rw [eh]; exact g2, by rw [eh]; exact g3, kl, RSeen_e gs (r _ (by omega) (by omega) (by omega) (by omega) (by omega) (by omega)) (r _ (by omega) (by omega) (by omega) (by omega) (by omega) (by omega)) (es_s (fun b hb => r b (by omega) (by omega) (by omega) (by omega) (by omega) (by omega)) (f5 24 (by omega))), RPlan_e gp (r _ (by omega) (by omega) (by omega) (by omega) (by omega) (by omega)) (r _ (by omega) (by omega) (by omega) (by omega) (by omega) (by omega)) (es_p (fun b hb => r b (by omega) (by omega) (by omega) (by omega) (by omega) (by omega)) (f5 28 (by omega))), RBook_e gb (r _ (by omega) (by omega) (by omega) (by omega) (by omega) (by omega)) (r _ (by omega) (by omega) (by omega) (by omega) (by omega) (by omega)) (es_b (fun b hb => r b (by omega) (by omega) (by omega) (by omega) (by omega) (by omega)) (f5 31 (by omega)))⟩, kw, ILim_c h4 (fun b hb => rI _ _ (by omega) (by omega) (by omega) (by omega) (by omega) (by omega)), kt, IDeed_c h6 (f5 34 (by omega)) (fun b hb => r b (by omega) (by omega) (by omega) (by omega) (by omega) (by omega)), ITape_e h7 el (fun b hb => r b (by omega) (by omega) (by omega) (by omega) (by omega) (by omega)), ?_⟩
  · rw [eh, ← g1]
    exact hC_c (fun b b1 b2 => r b (by omega) (by omega) (by omega) (by omega) (by omega) (by omega))
  · have := IImg_c h8 (r0 5 (by decide) (by decide)) (f5 36 (by omega)) (fun b hb => r b (by omega) (by omega) (by omega) (by omega) (by omega) (by omega)) e47
    rcases this with q | ⟨q1, q2, q3⟩
    · exact Or.inl q
    · exact Or.inr ⟨q1, q2, St_n q3 hn⟩
/-- the class's new statute draws as its clauses say -/
theorem Sqh_new {M : Mem} {s : Nat} {cl : List Cl} (hs : s = 14 ∨ 85 ≤ s) (k1 : isK M s 7 = true) (k2 : isK M (s + 1) 14 = true) (k3 : mG M (s + 1) = 100) (k4 : mR M s 0 = some (s + 1)) (l : (clsS cl).length ≤ 100) (e1 : mI M s 1 = nI (clsS cl).length) (e2 : ∀ i, i < (clsS cl).length → ∃ c, (clsS cl)[i]? = some c ∧ mI M (s + 1) i = nI c) (ok : ∀ c, c ∈ cl → ClOk c) : Sqh M s (fun F => lsum F cl 0) (mI M s 2) := by
  refine ⟨k1, rfl, fun F G hFG => lsum_6 hFG cl 0 ok, k2, k3, k4, by omega, fun N f n1 n2 n3 n4 n5 n6 n7 n8 => ?_⟩
  refine c_draws (ss := clsS cl) ⟨n1, n2, n3, n4, l, ?_, fun i hi => ?_, n7, n8⟩ ok rfl
  · unfold mI at *
    rw [n5]
    exact e1
  · obtain ⟨c, c1, c2⟩ := e2 i hi
    refine ⟨c, c1, ?_⟩
    unfold mI at *
    rw [n6]
    exact c2
theorem Mqh_new {M : Mem} {j cd : Nat} {cl : List Cl} (h : MLw M j cl cd) (e14 : mI M 55 14 = nI (j + 1)) (e22 : mI M 55 22 = nI cd) : Mqh M (nI j) (fun F => lsum F cl 0) (clsB 95 cl) := by
  obtain ⟨j6, l10, hcd, h63, hcl, hok⟩ := h
  refine ⟨fun F G hFG => lsum_6 hFG cl 0 hok, fun N hS hj hw63 hw hc => ?_⟩
  rw [e14, tn (by omega)] at hw hw63
  rw [e22, tn (by omega)] at hc
  refine m_lawOf hS hj (cd := cd) ⟨j6, l10, hcd, (hw63 j (by omega)).trans h63, fun i c hi => ?_, hok⟩
  have hil := (List.getElem?_eq_some_iff.mp hi).1
  obtain ⟨u1, u2, bg, u3, u4, u5, u6⟩ := hcl i c hi
  refine ⟨(hw _ _ (by omega) (by omega) (by omega)).trans u1, (hw _ _ (by omega) (by omega) (by omega)).trans u2, bg, u3, (hw _ _ (by omega) (by omega) (by omega)).trans u4, (hw _ _ (by omega) (by omega) (by omega)).trans u5, fun k hk => ?_⟩
  obtain ⟨x, x1, x2⟩ := u6 k hk
  exact ⟨x, x1, (hc _ (by omega)).trans x2⟩
