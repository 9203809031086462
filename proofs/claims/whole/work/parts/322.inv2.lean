/-! ===== what keeps the invariant ===== -/
theorem isK_c {M N : Mem} (h1 : mN N = mN M) (h2 : ∀ a, mK N a = mK M a) (a c : Nat) : isK N a c = isK M a c := by
  unfold isK
  rw [h1, h2]
def Fs (M N : Mem) : Prop := mN N = mN M ∧ (∀ a, mK N a = mK M a) ∧ (∀ a, mG N a = mG M a) ∧ ∀ a i, ¬ ((a = 31 ∨ a = 39 ∨ a = 47) ∧ i = 1) → mR N a i = mR M a i
theorem Fs_1 {M N : Mem} (e : N.1 = M.1) : Fs M N := ⟨by unfold mN; rw [e], fun a => by unfold mK; rw [e], fun a => by unfold mG; rw [e], fun a i _ => by unfold mR; rw [e]⟩
theorem Fs_Qc {M N : Mem} (h : Qc M N) : Fs M N := ⟨h.1.1, h.1.2.1, h.1.2.2.1, fun a i hh => h.1.2.2.2 a i (by omega)⟩
theorem Fs_t {M N P : Mem} (h : Fs M N) (k : Fs N P) : Fs M P := ⟨k.1.trans h.1, fun a => (k.2.1 a).trans (h.2.1 a), fun a => (k.2.2.1 a).trans (h.2.2.1 a), fun a i hh => (k.2.2.2 a i hh).trans (h.2.2.2 a i hh)⟩
theorem tR_31 : ∀ q, q ∈ tR → ¬ ((q.1 = 31 ∨ q.1 = 39 ∨ q.1 = 47) ∧ q.2.1 = 1) := by decide
theorem Fs_Sh {M N : Mem} (h : Fs M N) (k : Sh M) : Sh N := by
  obtain ⟨h1, h2, h3, h4⟩ := h
  refine ⟨by rw [h1]; exact k.1, fun q hq => by rw [h4 _ _ (tR_31 q hq)]; exact k.2.1 q hq, fun q hq => ?_, fun q hq => by rw [h3]; exact k.2.2.2 q hq⟩
  rw [isK_c h1 h2]
  exact k.2.2.1 q hq
theorem sidO_in (h : Nat) : sidO h = 29 ∨ sidO h = 14 ∨ 85 ≤ sidO h := by
  unfold sidO
  split
  · exact Or.inl rfl
  · split
    · exact Or.inr (Or.inl rfl)
    · exact Or.inr (Or.inr (by omega))
theorem ILaw_c {M N : Mem} {n : Nat} (h : ILaw M n) (f : Fs M N) (e0 : mI N 0 13 = mI M 0 13) (e1 : mI N 55 14 = mI M 55 14) (e2 : mI N 55 22 = mI M 55 22) (er : ∀ b, (14 ≤ b ∧ b ≤ 15) ∨ b = 29 ∨ b = 30 ∨ (63 ≤ b ∧ b ≤ 68) ∨ 85 ≤ b → N.2.1 b = M.2.1 b) : ILaw N n := by
  obtain ⟨f1, f2, f3, f4⟩ := f
  obtain ⟨h1, h2, h3, h4, h5, ⟨h6, h7, h8, h9⟩, h10, h11⟩ := h
  have hs := sidO_in (n + 1)
  refine ⟨h1, e0.trans h2, e1.trans h3, f1.trans h4, (f4 _ _ (by omega)).trans h5, ⟨by rw [isK_c f1 f2]; exact h6, by rw [f4 _ _ (by omega)]; exact h7, by rw [isK_c f1 f2]; exact h8, by rw [f3]; exact h9⟩, ?_, fun k hk => ?_⟩
  · obtain ⟨cd, c1, c2⟩ := h10
    exact ⟨cd, c1, e2.trans c2⟩
  · obtain ⟨lw, bd, hb, q1, q2⟩ := h11 k hk
    have hs := sidO_in k
    refine ⟨lw, bd, hb, Sqh_c q1 ?_ ?_ ?_ ?_ (er _ (by omega)) (er _ (by omega)), Mqh_c q2 e1 e2 (fun a ha => er a (by omega))⟩
    · rw [isK_c f1 f2]; exact q1.1
    · rw [isK_c f1 f2]; exact q1.2.2.2.1
    · rw [f3]; exact q1.2.2.2.2.1
    · rw [f4 _ _ (by omega)]; exact q1.2.2.2.2.2.1
theorem RSeen_c {M N : Mem} {a : Nat} {S T : Nat → Int32} (h : RSeen M a S) (e1 : N.2.1 a = M.2.1 a) (e2 : N.2.1 (a + 1) = M.2.1 (a + 1)) (es : ∀ j, 73 ≤ j → j < 130 → j ≠ 124 → j ≠ 125 → T j = S j) : RSeen N a T := by
  obtain ⟨c, h1, h2, h3, h4, h5⟩ := h
  refine ⟨c, h1, ?_, (es 126 (by omega) (by omega) (by omega) (by omega)).trans h3, fun i hi => ?_, fun i hi => ?_⟩
  · unfold mI at *; rw [e1]; exact h2
  · rw [es _ (by omega) (by omega) (by omega) (by omega), es _ (by omega) (by omega) (by omega) (by omega), es _ (by omega) (by omega) (by omega) (by omega)]
    have := h4 i hi
    unfold mI at *
    rw [e2]
    exact this
  · rw [es _ (by omega) (by omega) (by omega) (by omega), es _ (by omega) (by omega) (by omega) (by omega)]
    exact h5 i hi
theorem RPlan_c {M N : Mem} {a : Nat} {S T : Nat → Int32} (h : RPlan M a S) (e1 : N.2.1 a = M.2.1 a) (e2 : N.2.1 (a + 1) = M.2.1 (a + 1)) (es : ∀ j, 73 ≤ j → j < 130 → j ≠ 124 → j ≠ 125 → T j = S j) : RPlan N a T := by
  obtain ⟨c, h1, h2, h3, h4, h5⟩ := h
  refine ⟨c, h1, ?_, (es 127 (by omega) (by omega) (by omega) (by omega)).trans h3, fun i hi => ?_, fun i hi => ?_⟩
  · unfold mI at *; rw [e1]; exact h2
  · rw [es _ (by omega) (by omega) (by omega) (by omega), es _ (by omega) (by omega) (by omega) (by omega)]
    have := h4 i hi
    unfold mI at *
    rw [e2]
    exact this
  · rw [es _ (by omega) (by omega) (by omega) (by omega), es _ (by omega) (by omega) (by omega) (by omega)]
    exact h5 i hi
theorem RBook_c {M N : Mem} {a : Nat} {S T : Nat → Int32} (h : RBook M a S) (e1 : N.2.1 a = M.2.1 a) (e2 : N.2.1 (a + 1) = M.2.1 (a + 1)) (es : ∀ j, 73 ≤ j → j < 130 → j ≠ 124 → j ≠ 125 → T j = S j) : RBook N a T := by
  obtain ⟨c, h1, h2, h3, h4, h5⟩ := h
  refine ⟨c, h1, ?_, (es 128 (by omega) (by omega) (by omega) (by omega)).trans h3, fun i hi => ?_, fun i hi => ?_⟩
  · unfold mI at *; rw [e1]; exact h2
  · rw [es _ (by omega) (by omega) (by omega) (by omega), es _ (by omega) (by omega) (by omega) (by omega)]
    have := h4 i hi
    unfold mI at *
    rw [e2]
    exact this
  · rw [es _ (by omega) (by omega) (by omega) (by omega)]
    exact h5 i hi
theorem hC_c {M N : Mem} {o : Nat} (h : ∀ b, o ≤ b → b ≤ o + 6 → N.2.1 b = M.2.1 b) : hC N o = hC M o := by
  funext k i
  show hx N (o + 1) o 2 4 k i = hx M (o + 1) o 2 4 k i
  unfold hx
  by_cases hi : i < hsz k
  · rw [if_pos hi, if_pos hi]
    have h7 : k ≤ 6 := by
      apply Classical.byContradiction
      intro hq
      have : hsz k = 0 := by
        match k, hq with
        | k + 7, _ => rfl
      omega
    unfold mI
    rw [h o (by omega) (by omega)]
    by_cases h6 : k = 6
    · rw [if_pos h6, if_pos h6]
    · rw [if_neg h6, if_neg h6, h (o + 1 + k) (by omega) (by omega)]
  · rw [if_neg hi, if_neg hi]
theorem St_c {M N : Mem} {o a b c n : Nat} {S T : Nat → Int32} (h : St M o a b c S n) (e1 : hC N o = hV T) (e2 : Hb 9999 (hV T)) (e3 : Hz (hV T)) (e4 : mR N o 1 = mR M o 1) (ea : N.2.1 a = M.2.1 a ∧ N.2.1 (a + 1) = M.2.1 (a + 1)) (eb : N.2.1 b = M.2.1 b ∧ N.2.1 (b + 1) = M.2.1 (b + 1)) (ec : N.2.1 c = M.2.1 c ∧ N.2.1 (c + 1) = M.2.1 (c + 1)) (es : ∀ j, 73 ≤ j → j < 130 → j ≠ 124 → j ≠ 125 → T j = S j) : St N o a b c T n := by
  obtain ⟨h1, h2, h3, ⟨k, k1, k2, k3⟩, h5, h6, h7⟩ := h
  exact ⟨e1, e2, e3, ⟨k, k1, e4.trans k2, (es 129 (by omega) (by omega) (by omega) (by omega)).trans k3⟩, RSeen_c h5 ea.1 ea.2 es, RPlan_c h6 eb.1 eb.2 es, RBook_c h7 ec.1 ec.2 es⟩
theorem IImg_c {M N : Mem} {n : Nat} (h : IImg M n) (e0 : mI N 0 5 = mI M 0 5) (e1 : mI N 55 36 = mI M 55 36) (er : ∀ b, (7 ≤ b ∧ b ≤ 12) ∨ (47 ≤ b ∧ b ≤ 54) ∨ b = 78 → N.2.1 b = M.2.1 b) (e4 : mR N 47 1 = mR M 47 1) : IImg N n := by
  rcases h with ⟨h1, h2⟩ | ⟨h1, h2, h3⟩
  · exact Or.inl ⟨e0.trans h1, e1.trans h2⟩
  · refine Or.inr ⟨e0.trans h1, e1.trans h2, ?_⟩
    have e78 : mI N 78 = mI M 78 := er 78 (by omega)
    rw [e78]
    exact St_c h3 ((hC_c (fun b b1 b2 => er b (by omega))).trans h3.1) h3.2.1 h3.2.2.1 e4 ⟨er 7 (by omega), er 8 (by omega)⟩ ⟨er 9 (by omega), er 10 (by omega)⟩ ⟨er 11 (by omega), er 12 (by omega)⟩ (fun _ _ _ _ _ => rfl)
theorem ILim_c {M N : Mem} (h : ILim M) (er : ∀ b, b = 1 ∨ b = 3 ∨ b = 5 → mI N b 0 = mI M b 0) : ILim N := ⟨(er 1 (by omega)).trans h.1, (er 3 (by omega)).trans h.2.1, (er 5 (by omega)).trans h.2.2⟩
theorem IText_c {M N : Mem} (h : IText M) (e0 : mI N 0 11 = mI M 0 11) (e1 : mI N 55 8 = mI M 55 8) (er : ∀ b, b = 13 ∨ b = 62 → N.2.1 b = M.2.1 b) : IText N := by
  obtain ⟨t, h1, h2, h3, h4⟩ := h
  refine ⟨t, h1, e0.trans h2, e1.trans h3, fun i hi => ?_⟩
  have := h4 i hi
  unfold mI at *
  rw [er 13 (by omega), er 62 (by omega)]
  exact this
theorem IDeed_c {M N : Mem} (h : IDeed M) (e1 : mI N 55 34 = mI M 55 34) (er : ∀ b, b = 16 ∨ b = 17 ∨ b = 77 → N.2.1 b = M.2.1 b) : IDeed N := by
  obtain ⟨t, h1, h2, h3, h4⟩ := h
  refine ⟨t, h1, ?_, e1.trans h3, fun i hi hb => ?_⟩
  · unfold mI at *; rw [er 16 (by omega)]; exact h2
  · have := h4 i hi hb
    unfold mI at *
    rw [er 17 (by omega), er 77 (by omega)]
    exact this
theorem ITape_c {M N : Mem} (h : ITape M) (el : N.2.2 = M.2.2) (er : ∀ b, b = 18 ∨ b = 19 ∨ b = 82 ∨ b = 83 → N.2.1 b = M.2.1 b) : ITape N := by
  intro t ht
  have := h t ht
  unfold mI mL at *
  rw [er 18 (by omega), er 19 (by omega), er 82 (by omega), er 83 (by omega), el]
  exact this
theorem sv_c {M N : Mem} (e : ∀ f, f = 24 ∨ f = 28 ∨ f = 31 ∨ f = 15 → mI N 55 f = mI M 55 f) (er : ∀ b, 70 ≤ b ∧ b ≤ 76 → N.2.1 b = M.2.1 b) : ∀ j, 73 ≤ j → j < 130 → j ≠ 124 → j ≠ 125 → sv N j = sv M j := by
  have hh : ∀ j, j < 130 → (73 ≤ j ∧ j ≠ 124 ∧ j ≠ 125) → (70 ≤ (src j).1 ∧ (src j).1 ≤ 76) ∨ ((src j).1 = 55 ∧ ((src j).2 = 24 ∨ (src j).2 = 28 ∨ (src j).2 = 31 ∨ (src j).2 = 15)) := by decide +kernel
  intro j h1 h2 h3 h4
  unfold sv
  rcases hh j h2 ⟨h1, h3, h4⟩ with g | ⟨g1, g2⟩
  · unfold mI
    rw [er _ g]
  · rw [g1]
    exact e _ g2
/-- a question -/
theorem Inv_qc {M N : Mem} {n : Nat} (h : Inv M n) (q : Qc M N) : Inv N n := by
  obtain ⟨h1, h2, h3, h4, h5, h6, h7, h8⟩ := h
  have r : ∀ b, ¬ (38 ≤ b ∧ b ≤ 46) → N.2.1 b = M.2.1 b := q.2.2
  have rI : ∀ b i, ¬ (38 ≤ b ∧ b ≤ 46) → mI N b i = mI M b i := fun b i hb => congrFun (r b hb) i
  have f := Fs_Qc q
  have esv : ∀ j, j < 130 → sv N j = sv M j := fun j hj => by
    have := src_row j hj
    exact rI _ _ (by omega)
  have eh : hV (sv N) = hV (sv M) := hV_eq esv
  refine ⟨Fs_Sh f h1, ?_, ILaw_c h3 f (rI _ _ (by omega)) (rI _ _ (by omega)) (rI _ _ (by omega)) (fun b hb => r b (by omega)), ILim_c h4 (fun b hb => rI _ _ (by omega)), IText_c h5 (rI _ _ (by omega)) (rI _ _ (by omega)) (fun b hb => r b (by omega)), IDeed_c h6 (rI _ _ (by omega)) (fun b hb => r b (by omega)), ITape_c h7 q.2.1 (fun b hb => r b (by omega)), IImg_c h8 (rI _ _ (by omega)) (rI _ _ (by omega)) (fun b hb => r b (by omega)) (q.1.2.2.2 _ _ (by omega))⟩
  refine St_c h2 ?_ (by rw [eh]; exact h2.2.1) (by rw [eh]; exact h2.2.2.1) (q.1.2.2.2 _ _ (by omega)) ⟨r _ (by omega), r _ (by omega)⟩ ⟨r _ (by omega), r _ (by omega)⟩ ⟨r _ (by omega), r _ (by omega)⟩ (fun j _ hj _ _ => esv j hj)
  rw [eh, ← h2.1]
  exact hC_c (fun b b1 b2 => r b (by omega))
theorem Inv_qm {M N : Mem} {n : Nat} (h : Inv M n) (q : Qm M N) : Inv N n := by
  obtain ⟨h1, h2, h3, h4, h5, h6, h7, h8⟩ := h
  have r : ∀ b, b < 55 ∨ (62 ≤ b ∧ b ≤ 68) ∨ b = 77 ∨ b = 78 ∨ 82 ≤ b → N.2.1 b = M.2.1 b := q.1.2.2.1
  have rI : ∀ b i, b < 55 ∨ (62 ≤ b ∧ b ≤ 68) ∨ b = 77 ∨ b = 78 ∨ 82 ≤ b → mI N b i = mI M b i := fun b i hb => congrFun (r b hb) i
  have f := Fs_1 q.1.1
  have eh : hV (sv N) = hV (sv M) := hV_eq q.2
  have fR : ∀ a i, mR N a i = mR M a i := fun a i => by unfold mR; rw [q.1.1]
  refine ⟨Fs_Sh f h1, ?_, ILaw_c h3 f (rI _ _ (by omega)) (Qm_f q _) (Qm_f q _) (fun b hb => r b (by omega)), ILim_c h4 (fun b hb => rI _ _ (by omega)), IText_c h5 (rI _ _ (by omega)) (Qm_f q _) (fun b hb => r b (by omega)), IDeed_c h6 (Qm_f q _) (fun b hb => r b (by omega)), ITape_c h7 q.1.2.1 (fun b hb => r b (by omega)), IImg_c h8 (rI _ _ (by omega)) (Qm_f q _) (fun b hb => r b (by omega)) (fR _ _)⟩
  refine St_c h2 ?_ (by rw [eh]; exact h2.2.1) (by rw [eh]; exact h2.2.2.1) (fR _ _) ⟨r _ (by omega), r _ (by omega)⟩ ⟨r _ (by omega), r _ (by omega)⟩ ⟨r _ (by omega), r _ (by omega)⟩ (fun j _ hj _ _ => q.2 j hj)
  rw [eh, ← h2.1]
  exact hC_c (fun b b1 b2 => r b (by omega))
/-- a change in both halls -/
theorem Inv_h {M N : Mem} {n : Nat} (h : Inv M n) (e : N.1 = M.1) (el : N.2.2 = M.2.2) (r : ∀ b, ¬ (31 ≤ b ∧ b ≤ 46) → ¬ (55 ≤ b ∧ b ≤ 61) → b ≠ 69 → N.2.1 b = M.2.1 b) (rf : ∀ f, f ≠ 1 → f ≠ 7 → mI N 55 f = mI M 55 f) (k1 : hC N 31 = hM N) (k2 : Hb 9999 (hM N)) (k3 : Hz (hM N)) : Inv N n := by
  obtain ⟨h1, h2, h3, h4, h5, h6, h7, h8⟩ := h
  have rI : ∀ b i, ¬ (31 ≤ b ∧ b ≤ 46) → ¬ (55 ≤ b ∧ b ≤ 61) → b ≠ 69 → mI N b i = mI M b i := fun b i b1 b2 b3 => congrFun (r b b1 b2 b3) i
  have f := Fs_1 e
  have fR : ∀ a i, mR N a i = mR M a i := fun a i => by unfold mR; rw [e]
  rw [hM_hV] at k1 k2 k3
  refine ⟨Fs_Sh f h1, St_c h2 k1 k2 k3 (fR _ _) ⟨r _ (by omega) (by omega) (by omega), r _ (by omega) (by omega) (by omega)⟩ ⟨r _ (by omega) (by omega) (by omega), r _ (by omega) (by omega) (by omega)⟩ ⟨r _ (by omega) (by omega) (by omega), r _ (by omega) (by omega) (by omega)⟩ (sv_c (fun f hf => rf f (by omega) (by omega)) (fun b hb => r b (by omega) (by omega) (by omega))), ILaw_c h3 f (rI _ _ (by omega) (by omega) (by omega)) (rf _ (by omega) (by omega)) (rf _ (by omega) (by omega)) (fun b hb => r b (by omega) (by omega) (by omega)), ILim_c h4 (fun b hb => rI _ _ (by omega) (by omega) (by omega)), IText_c h5 (rI _ _ (by omega) (by omega) (by omega)) (rf _ (by omega) (by omega)) (fun b hb => r b (by omega) (by omega) (by omega)), IDeed_c h6 (rf _ (by omega) (by omega)) (fun b hb => r b (by omega) (by omega) (by omega)), ITape_c h7 el (fun b hb => r b (by omega) (by omega) (by omega)), IImg_c h8 (rI _ _ (by omega) (by omega) (by omega)) (rf _ (by omega) (by omega)) (fun b hb => r b (by omega) (by omega) (by omega)) (fR _ _)⟩
/-- what the halls' functions want -/
def Op (M : Mem) (s : Nat) (lw : Law) (bd : Nat) : Prop := Sh M ∧ mR M 31 1 = some s ∧ Sqh M s lw (nI bd) ∧ Mqh M (mI M 55 15) lw (nI bd) ∧ hC M 31 = hM M ∧ Hb 9999 (hM M) ∧ bd ≤ 99
theorem Op_of {M : Mem} {n : Nat} (h : Inv M n) : ∃ s lw bd, Op M s lw bd := by
  obtain ⟨h1, ⟨g1, g2, g3, ⟨k, k1, k2, k3⟩, -⟩, h3, -⟩ := h
  obtain ⟨lw, bd, hb, q1, q2⟩ := h3.2.2.2.2.2.2.2 k k1
  exact ⟨sidO k, lw, bd, h1, k2, q1, by rw [show mI M 55 15 = hI k from k3]; exact q2, by rw [hM_hV]; exact g1, by rw [hM_hV]; exact g2, hb⟩
theorem Sqh_Fs {M N : Mem} {s : Nat} {lw : Law} {bd : Int32} (h : Sqh M s lw bd) (f : Fs M N) (e1 : N.2.1 s = M.2.1 s) (e2 : N.2.1 (s + 1) = M.2.1 (s + 1)) : Sqh N s lw bd := by
  obtain ⟨g1, g2, g3, g4, g5, g6, g7, g8⟩ := id h
  refine Sqh_c h ?_ ?_ ?_ ?_ e1 e2
  · rw [isK_c f.1 f.2.1]; exact g1
  · rw [isK_c f.1 f.2.1]; exact g4
  · rw [f.2.2.1]; exact g5
  · rw [f.2.2.2 _ _ (by omega)]; exact g6
theorem Op_qc {M N : Mem} {s : Nat} {lw : Law} {bd : Nat} (h : Op M s lw bd) (q : Qc M N) : Op N s lw bd ∧ hM N = hM M := by
  obtain ⟨h1, h2, h3, h4, h5, h6, h7⟩ := h
  have r : ∀ b, ¬ (38 ≤ b ∧ b ≤ 46) → N.2.1 b = M.2.1 b := q.2.2
  have hs := h3.2.2.2.2.2.2.1
  have eh : hM N = hM M := by
    rw [hM_hV, hM_hV]
    exact hV_eq (fun j hj => by
      have := src_row j hj
      exact congrFun (r _ (by omega)) _)
  have ec : hC N 31 = hC M 31 := hC_c (fun b b1 b2 => r b (by omega))
  have e15 : mI N 55 15 = mI M 55 15 := congrFun (r 55 (by omega)) 15
  exact ⟨⟨Qc_Sh q h1, (q.1.2.2.2 _ _ (by omega)).trans h2, Sqh_Fs h3 (Fs_Qc q) (r _ (by omega)) (r _ (by omega)), by rw [e15]; exact Mqh_c h4 (congrFun (r 55 (by omega)) 14) (congrFun (r 55 (by omega)) 22) (fun a ha => r a (by omega)), by rw [ec, eh]; exact h5, by rw [eh]; exact h6, h7⟩, eh⟩
theorem Op_Sq {M : Mem} {s : Nat} {lw : Law} {bd : Nat} (h : Op M s lw bd) : Sq M s lw (nI bd) := Sq_h h.2.2.1
theorem Op_Mq {M : Mem} {s : Nat} {lw : Law} {bd : Nat} (h : Op M s lw bd) : Mq M lw (nI bd) := Mq_h h.1 rfl h.2.2.2.1
/-! ===== the trial takes what is ===== -/
theorem hsz_k {k i : Nat} (hi : i < hsz k) : (k = 0 ∧ i < 25) ∨ (k = 1 ∧ i < 6) ∨ (k = 2 ∧ i < 6) ∨ (k = 3 ∧ i < 6) ∨ (k = 4 ∧ i < 6) ∨ (k = 5 ∧ i < 24) ∨ (k = 6 ∧ i < 2) := by
  match k, hi with
  | 0, hi => have : i < 25 := hi; omega
  | 1, hi => have : i < 6 := hi; omega
  | 2, hi => have : i < 6 := hi; omega
  | 3, hi => have : i < 6 := hi; omega
  | 4, hi => have : i < 6 := hi; omega
  | 5, hi => have : i < 24 := hi; omega
  | 6, hi => have : i < 2 := hi; omega
  | k + 7, hi => exact absurd hi (Nat.not_lt_zero _)
theorem take_h {M : Mem} {d o s : Nat} (hdo : (d = 39 ∧ o = 31) ∨ (d = 47 ∧ o = 31) ∨ (d = 31 ∧ o = 47)) : hC (cpI (cpI (cpI (cpI (cpI (cpI (stI (stI (stR M d 1 (some s)) d 2 (mI M o 2)) d 4 (mI M o 4)) (o + 1) (d + 1) 0 0 25) (o + 2) (d + 2) 0 0 6) (o + 3) (d + 3) 0 0 6) (o + 4) (d + 4) 0 0 6) (o + 5) (d + 5) 0 0 6) (o + 6) (d + 6) 0 0 24) d = hC M o := by
  funext k i
  show hx _ (d + 1) d 2 4 k i = hx M (o + 1) o 2 4 k i
  unfold hx
  by_cases hi : i < hsz k
  · rw [if_pos hi, if_pos hi]
    rcases hdo with ⟨rfl, rfl⟩ | ⟨rfl, rfl⟩ | ⟨rfl, rfl⟩ <;> (rcases hsz_k hi with ⟨rfl, h⟩ | ⟨rfl, h⟩ | ⟨rfl, h⟩ | ⟨rfl, h⟩ | ⟨rfl, h⟩ | ⟨rfl, h⟩ | ⟨rfl, h⟩ <;> by_cases h0 : i = 0 <;> simp [mI_cpI, mI_stI, mI_stR, h, h0])
  · rw [if_neg hi, if_neg hi]
theorem p_take {M : Mem} {d o s : Nat} (h : Sh M) (hdo : (d = 39 ∧ o = 31) ∨ (d = 47 ∧ o = 31) ∨ (d = 31 ∧ o = 47)) (hs : mR M o 1 = some s) (ha : ∀ i, i < 6 → hC M o 4 i = 0 ∨ hC M o 4 i = 1) : ∃ N, fX3_take M d o = some ((), N) ∧ Ft M N d s ∧ hC N d = hC M o := by
  have ha' : allb M (o + 5) 0 6 = true := by
    unfold allb
    rw [List.all_eq_true]
    intro i hi
    rw [List.mem_range] at hi
    have := ha i hi
    rw [show hC M o 4 i = mI M (o + 5) i from hx_arr (b := o + 1) (k := 4) (by decide) hi] at this
    rw [Nat.zero_add]
    unfold b01
    rcases this with e | e <;> rw [e] <;> rfl
  have hallb : ∀ N : Mem, N.2.1 (o + 5) = M.2.1 (o + 5) → allb N (o + 5) 0 6 = true := by
    intro N e
    unfold allb mI at *
    rw [e]
    exact ha'
  have go : ∀ (Hd : Hl M d) (Ho : Hl M o), ∃ N, fX3_take M d o = some ((), N) ∧ Ft M N d s ∧ hC N d = hC M o := by
    intro Hd Ho
    obtain ⟨a0, a1, a2, a3, a4, a5, a6, a7, a8, a9, a10, a11, a12, a13, a14, a15, a16, a17, a18, a19, a20, a21, a22⟩ := Hd
    obtain ⟨b0, b1, b2, b3, b4, b5, b6, b7, b8, b9, b10, b11, b12, b13, b14, b15, b16, b17, b18, b19, b20, b21, b22⟩ := Ho
    have hne : d ≠ o := by omega
    have R : ∀ (a i : Nat) (r : Option Nat), i ≠ 1 → mR (stR M d 1 r) a i = mR M a i := fun a i r hi => by rw [mR_stR, if_neg (by omega)]
    refine ⟨cpI (cpI (cpI (cpI (cpI (cpI (stI (stI (stR M d 1 (some s)) d 2 (mI M o 2)) d 4 (mI M o 4)) (o + 1) (d + 1) 0 0 25) (o + 2) (d + 2) 0 0 6) (o + 3) (d + 3) 0 0 6) (o + 4) (d + 4) 0 0 6) (o + 5) (d + 5) 0 0 6) (o + 6) (d + 6) 0 0 24, ?_, ?_, ?_⟩
    · unfold fX3_take
      have q4 : mI (stI (stR M d 1 (some s)) d 2 (mI M o 2)) o 4 = mI M o 4 := by
        rw [mI_stI, if_neg (by omega)]
        rfl
      simp only [b0, a0, hs, ck_t, rb_s, nm_s, isK_stI, isK_cpI, mG_stI, mG_cpI, mR_stI, mR_cpI, show ∀ c r a k, isK (stR M c 1 r) a k = isK M a k from fun _ _ _ _ => rfl, mG_stR, mI_stR, q4, R _ _ _ (show (3 : Nat) ≠ 1 by decide), R _ _ _ (show (5 : Nat) ≠ 1 by decide), R _ _ _ (show (6 : Nat) ≠ 1 by decide), R _ _ _ (show (7 : Nat) ≠ 1 by decide), R _ _ _ (show (8 : Nat) ≠ 1 by decide), R _ _ _ (show (9 : Nat) ≠ 1 by decide), a2, a3, a4, a5, a6, a7, a9, a10, a11, a12, a13, a14, a15, a16, a17, a18, a19, a20, b2, b3, b4, b5, b6, b7, b9, b10, b11, b12, b13, b14, b15, b16, b17, b18, b19, b20, tl0, tl6, tl24, tl25, show cpok 0 0 25 25 25 = true by decide, show cpok 0 0 6 6 6 = true by decide, show cpok 0 0 24 24 24 = true by decide]
      rw [hallb _ ?_, ck_t]
      funext j
      show (cpI (cpI (cpI (cpI (stI (stI (stR M d 1 (some s)) d 2 (mI M o 2)) d 4 (mI M o 4)) (o + 1) (d + 1) 0 0 25) (o + 2) (d + 2) 0 0 6) (o + 3) (d + 3) 0 0 6) (o + 4) (d + 4) 0 0 6).2.1 (o + 5) j = M.2.1 (o + 5) j
      show mI _ (o + 5) j = mI M (o + 5) j
      simp only [mI_cpI, mI_stI, mI_stR]
      rw [if_neg (by omega), if_neg (by omega), if_neg (by omega), if_neg (by omega), if_neg (by omega), if_neg (by omega)]
    · refine ⟨rfl, rfl, fun a ha => ?_⟩
      funext j
      show mI _ a j = mI M a j
      simp only [mI_cpI, mI_stI, mI_stR]
      rw [if_neg (by omega), if_neg (by omega), if_neg (by omega), if_neg (by omega), if_neg (by omega), if_neg (by omega), if_neg (by omega), if_neg (by omega)]
    · exact take_h hdo
  rcases hdo with ⟨rfl, rfl⟩ | ⟨rfl, rfl⟩ | ⟨rfl, rfl⟩
  · exact go (Hl_39 h) (Hl_31 h)
  · exact go (Hl_47 h) (Hl_31 h)
  · exact go (Hl_31 h) (Hl_47 h)
theorem Qc_Ft {M N : Mem} {s : Nat} (h : Ft M N 39 s) : Qc M N := by
  refine ⟨⟨by unfold mN; rw [h.1]; rfl, fun a => by unfold mK; rw [h.1]; rfl, fun a => by unfold mG; rw [h.1]; rfl, fun a i hh => ?_⟩, h.2.1, fun b hb => h.2.2 b (by omega)⟩
  have : mR N a i = mR (stR M 39 1 (some s)) a i := by unfold mR; rw [h.1]
  rw [this, mR_stR, if_neg hh]
/-- the trial, ready -/
theorem p_try {M : Mem} {s : Nat} {lw : Law} {bd : Nat} (h : Op M s lw bd) : ∃ N, fX3_take M 39 31 = some ((), N) ∧ Qc M N ∧ hC N 39 = hM M ∧ mR N 39 1 = some s ∧ Op N s lw bd := by
  obtain ⟨N, n1, n2, n3⟩ := p_take (d := 39) (o := 31) h.1 (Or.inl ⟨rfl, rfl⟩) h.2.1 (by rw [h.2.2.2.2.1]; exact h.2.2.2.2.2.1.1.2.2.2.2.2)
  refine ⟨N, n1, Qc_Ft n2, by rw [n3]; exact h.2.2.2.2.1, ?_, (Op_qc h (Qc_Ft n2)).1⟩
  have : mR N 39 1 = mR (stR M 39 1 (some s)) 39 1 := by unfold mR; rw [n2.1]
  rw [this, mR_stR, if_pos ⟨rfl, rfl⟩]
