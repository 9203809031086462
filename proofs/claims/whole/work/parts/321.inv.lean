/-! ===== the model's state as a row of numbers ===== -/
def off (k : Nat) : Nat := match k with
  | 0 => 0
  | 1 => 25
  | 2 => 31
  | 3 => 37
  | 4 => 43
  | _ => 49
def hV (S : Nat → Int32) : Hall := fun k i => if i < hsz k then (if k = 6 then (if i = 0 then S 125 else S 124) else S (off k + i)) else 0
theorem hM_hV {M : Mem} : hM M = hV (sv M) := by
  funext k i
  show hx M 56 55 7 1 k i = hV (sv M) k i
  unfold hx hV
  by_cases hi : i < hsz k
  · rw [if_pos hi, if_pos hi]
    match k, hi with
    | 0, hi => exact (sv_56 (M := M) (i := i) hi).symm
    | 1, hi => exact (sv_57 (M := M) (i := i) hi).symm
    | 2, hi => exact (sv_58 (M := M) (i := i) hi).symm
    | 3, hi => exact (sv_59 (M := M) (i := i) hi).symm
    | 4, hi => exact (sv_60 (M := M) (i := i) hi).symm
    | 5, hi => exact (sv_61 (M := M) (i := i) hi).symm
    | 6, hi => rfl
    | k + 7, hi => exact absurd hi (Nat.not_lt_zero _)
  · rw [if_neg hi, if_neg hi]
theorem hV_eq {S T : Nat → Int32} (h : ∀ j, j < 130 → S j = T j) : hV S = hV T := by
  funext k i
  unfold hV
  by_cases hi : i < hsz k
  · rw [if_pos hi, if_pos hi]
    match k, hi with
    | 0, hi => exact h _ (by have : i < 25 := hi; show 0 + i < 130; omega)
    | 1, hi => exact h _ (by have : i < 6 := hi; show 25 + i < 130; omega)
    | 2, hi => exact h _ (by have : i < 6 := hi; show 31 + i < 130; omega)
    | 3, hi => exact h _ (by have : i < 6 := hi; show 37 + i < 130; omega)
    | 4, hi => exact h _ (by have : i < 6 := hi; show 43 + i < 130; omega)
    | 5, hi => exact h _ (by have : i < 24 := hi; show 49 + i < 130; omega)
    | 6, hi =>
      show (if i = 0 then S 125 else S 124) = (if i = 0 then T 125 else T 124)
      rw [h 125 (by decide), h 124 (by decide)]
    | k + 7, hi => exact absurd hi (Nat.not_lt_zero _)
  · rw [if_neg hi, if_neg hi]
/-! ===== what a question leaves ===== -/
def Wm (M N : Mem) : Prop := N.1 = M.1 ∧ N.2.2 = M.2.2 ∧ (∀ b, b < 55 ∨ (62 ≤ b ∧ b ≤ 68) ∨ b = 77 ∨ b = 78 ∨ 82 ≤ b → N.2.1 b = M.2.1 b) ∧ ∀ f, f ≠ 1 → f ≠ 7 → f ≠ 24 → f ≠ 28 → f ≠ 31 → f ≠ 15 → mI N 55 f = mI M 55 f
def Qm (M N : Mem) : Prop := Wm M N ∧ ∀ j, j < 130 → sv N j = sv M j
theorem Wm_r {M : Mem} : Wm M M := ⟨rfl, rfl, fun _ _ => rfl, fun _ _ _ _ _ _ _ => rfl⟩
theorem Wm_t {M N P : Mem} (h : Wm M N) (k : Wm N P) : Wm M P := ⟨k.1.trans h.1, k.2.1.trans h.2.1, fun a ha => (k.2.2.1 a ha).trans (h.2.2.1 a ha), fun f f1 f2 f3 f4 f5 f6 => (k.2.2.2 f f1 f2 f3 f4 f5 f6).trans (h.2.2.2 f f1 f2 f3 f4 f5 f6)⟩
theorem Wm_Fm {M N : Mem} (h : Fm M N) : Wm M N := ⟨h.1, h.2.1, fun b hb => h.2.2.1 b (by omega), fun f _ f2 _ _ _ _ => h.2.2.2 f f2⟩
theorem Wm_wF {M : Mem} {a : Nat} {F : Nat → Int32} (h : (56 ≤ a ∧ a < 62) ∨ (69 ≤ a ∧ a ≤ 76) ∨ (79 ≤ a ∧ a ≤ 81)) : Wm M (wF M a F) := ⟨rfl, rfl, fun b hb => va_up_ne _ _ (by omega), fun f _ _ _ _ _ _ => by rw [mI_wF, if_neg (by omega)]⟩
theorem Wm_stI {M : Mem} {a i : Nat} {x : Int32} (h : (56 ≤ a ∧ a < 62) ∨ (69 ≤ a ∧ a ≤ 76) ∨ (79 ≤ a ∧ a ≤ 81)) : Wm M (stI M a i x) := by
  rw [stI_row_eq]
  exact Wm_wF h
theorem Qm_r {M : Mem} : Qm M M := ⟨Wm_r, fun _ _ => rfl⟩
theorem Qm_t {M N P : Mem} (h : Qm M N) (k : Qm N P) : Qm M P := ⟨Wm_t h.1 k.1, fun j hj => (k.2 j hj).trans (h.2 j hj)⟩
theorem Qm_hM {M N : Mem} (h : Qm M N) : hM N = hM M := by
  rw [hM_hV, hM_hV]
  exact hV_eq h.2
theorem Qm_f {M N : Mem} (h : Qm M N) (f : Nat) : mI N 55 f = mI M 55 f := by
  by_cases f1 : f = 1
  · subst f1; exact h.2 124 (by decide)
  by_cases f2 : f = 7
  · subst f2; exact h.2 125 (by decide)
  by_cases f3 : f = 24
  · subst f3; exact h.2 126 (by decide)
  by_cases f4 : f = 28
  · subst f4; exact h.2 127 (by decide)
  by_cases f5 : f = 31
  · subst f5; exact h.2 128 (by decide)
  by_cases f6 : f = 15
  · subst f6; exact h.2 129 (by decide)
  exact h.1.2.2.2 f f1 f2 f3 f4 f5 f6
theorem Qm_Sm {M N : Mem} (h : Qm M N) : Sm M N := ⟨h.1.1, Qm_f h 15, fun a ha => h.1.2.2.1 a (by omega)⟩
theorem Qm_69 {M : Mem} {F : Nat → Int32} : Qm M (wF M 69 F) := by
  refine ⟨Wm_wF (by omega), fun j hj => ?_⟩
  have := src_row j hj
  unfold sv
  rw [mI_wF, if_neg (by omega)]
theorem Qm_81 {M : Mem} {a : Nat} {F : Nat → Int32} (ha : a = 69 ∨ a = 79 ∨ a = 80 ∨ a = 81) : Qm M (wF M a F) := by
  refine ⟨Wm_wF (by omega), fun j hj => ?_⟩
  have := src_row j hj
  unfold sv
  rw [mI_wF, if_neg (by omega)]
theorem KA_w {M N : Mem} {a : Nat} (e : N.1 = M.1) (h : KA M a) : KA N a := by
  unfold KA isK mN mK mG at *
  rw [e]
  exact h
theorem KA_78 {M : Mem} (h : Sh M) : KA M 78 := ⟨by decide, k_78 h, g_78 h⟩
theorem KA_79 {M : Mem} (h : Sh M) : KA M 79 := ⟨by decide, k_79 h, g_79 h⟩
theorem KA_80 {M : Mem} (h : Sh M) : KA M 80 := ⟨by decide, k_80 h, g_80 h⟩
/-- all is laid back -/
theorem p_back {M N : Mem} {a : Nat} (h : Sh M) (hw : Wm M N) (ha : a = 79 ∨ a = 80) (hk : KA M a) (hs : ∀ j, j < 130 → mI N a j = sv M j) : ∃ P, fX12_again N 55 a = some ((), P) ∧ Qm M P ∧ ∀ b, 79 ≤ b → P.2.1 b = N.2.1 b := by
  obtain ⟨P, p1, p2, p3, p4, p5, p6⟩ := p_again (Sh_1 hw.1 h) (KA_w hw.1 hk)
  refine ⟨P, p1, ⟨⟨p2.trans hw.1, p3.trans hw.2.1, fun b hb => (p4 b (by omega) (by omega)).trans (hw.2.2.1 b hb), fun f f1 f2 f3 f4 f5 f6 => (p5 f f1 f2 f3 f4 f5 f6).trans (hw.2.2.2 f f1 f2 f3 f4 f5 f6)⟩, fun j hj => (p6 j hj trivial).trans (hs j hj)⟩, fun b hb => p4 b (by omega) (by omega)⟩
/-- what a question leaves of the class -/
def Qc (M N : Mem) : Prop := (mN N = mN M ∧ (∀ a, mK N a = mK M a) ∧ (∀ a, mG N a = mG M a) ∧ ∀ a i, ¬ (a = 39 ∧ i = 1) → mR N a i = mR M a i) ∧ N.2.2 = M.2.2 ∧ ∀ b, ¬ (38 ≤ b ∧ b ≤ 46) → N.2.1 b = M.2.1 b
theorem Qc_r {M : Mem} : Qc M M := ⟨⟨rfl, fun _ => rfl, fun _ => rfl, fun _ _ _ => rfl⟩, rfl, fun _ _ => rfl⟩
theorem Qc_t {M N P : Mem} (h : Qc M N) (k : Qc N P) : Qc M P := ⟨⟨k.1.1.trans h.1.1, fun a => (k.1.2.1 a).trans (h.1.2.1 a), fun a => (k.1.2.2.1 a).trans (h.1.2.2.1 a), fun a i hh => (k.1.2.2.2 a i hh).trans (h.1.2.2.2 a i hh)⟩, k.2.1.trans h.2.1, fun a ha => (k.2.2 a ha).trans (h.2.2 a ha)⟩
theorem Qc_Fr {M N : Mem} (h : Fr M N 39) : Qc M N := ⟨⟨by unfold mN; rw [h.1], fun a => by unfold mK; rw [h.1], fun a => by unfold mG; rw [h.1], fun a i _ => by unfold mR; rw [h.1]⟩, h.2.1, fun b hb => h.2.2 b (by omega)⟩
theorem Qc_wF {M : Mem} {a : Nat} {F : Nat → Int32} (h : 38 ≤ a ∧ a ≤ 46) : Qc M (wF M a F) := ⟨⟨rfl, fun _ => rfl, fun _ => rfl, fun _ _ _ => rfl⟩, rfl, fun b hb => va_up_ne _ _ (by omega)⟩
theorem Qc_stI {M : Mem} {a i : Nat} {x : Int32} (h : 38 ≤ a ∧ a ≤ 46) : Qc M (stI M a i x) := by
  rw [stI_row_eq]
  exact Qc_wF h
theorem tR_39 : ∀ q, q ∈ tR → ¬ (q.1 = 39 ∧ q.2.1 = 1) := by decide
theorem Qc_Sh {M N : Mem} (h : Qc M N) (k : Sh M) : Sh N := by
  obtain ⟨⟨h1, h2, h3, h4⟩, -⟩ := h
  refine ⟨by rw [h1]; exact k.1, fun q hq => by rw [h4 _ _ (tR_39 q hq)]; exact k.2.1 q hq, fun q hq => ?_, fun q hq => by rw [h3]; exact k.2.2.2 q hq⟩
  have := k.2.2.1 q hq
  unfold isK at *
  rw [h1, h2]
  exact this
/-! ===== statutes ===== -/
def sidO (h : Nat) : Nat := if h = 0 then 29 else if h = 1 then 14 else 81 + 2 * h
def hI (h : Nat) : Int32 := if h = 0 then -1 else nI (h - 1)
def Sqh (M : Mem) (s : Nat) (lw : Law) (bd : Int32) : Prop := isK M s 7 = true ∧ mI M s 2 = bd ∧ Law6 lw ∧ isK M (s + 1) 14 = true ∧ mG M (s + 1) = 100 ∧ mR M s 0 = some (s + 1) ∧ (s < 30 ∨ 85 ≤ s) ∧
  ∀ (N : Mem) (f : Nat), isK N s 7 = true → isK N (s + 1) 14 = true → mG N (s + 1) = 100 → mR N s 0 = some (s + 1) → N.2.1 s = M.2.1 s → N.2.1 (s + 1) = M.2.1 (s + 1) → isK N f 14 = true → mG N f = 6 → fX7_drawsBy N s f = some (lw (mI N f), N)
theorem Sq_h {M : Mem} {s : Nat} {lw : Law} {bd : Int32} (h : Sqh M s lw bd) : Sq M s lw bd := by
  obtain ⟨h1, h2, h3, h4, h5, h6, h7, h8⟩ := h
  exact ⟨h1, h2, h3, s + 1, h6, by omega, by omega, fun I f i1 i2 i3 i4 => h8 (M.1, I, M.2.2) f h1 h4 h5 h6 i1 i2 i3 i4⟩
def Mqh (M : Mem) (j : Int32) (lw : Law) (bd : Int32) : Prop := Law6 lw ∧ ∀ N, Sh N → mI N 55 15 = j → (∀ i, i < (mI M 55 14).toNatClampNeg → mI N 63 i = mI M 63 i) → (∀ b i, 64 ≤ b → b ≤ 67 → i < 10 * (mI M 55 14).toNatClampNeg → mI N b i = mI M b i) → (∀ i, i < (mI M 55 22).toNatClampNeg → mI N 68 i = mI M 68 i) → fX12_baldFrom N 55 = some (bd, N) ∧ ∀ p c, p < 6 → c < 25 → ∃ G, fX12_sum N 55 (nI p) (nI c) = some (aSum lw (hM N) p c, wF N 69 G)
theorem Mq_h {M : Mem} {j : Int32} {lw : Law} {bd : Int32} (hS : Sh M) (e : mI M 55 15 = j) (h : Mqh M j lw bd) : Mq M lw bd := ⟨h.1, fun N hn => h.2 N (Sh_1 hn.1 hS) (hn.2.1.trans e) (fun i _ => congrFun (hn.2.2 63 (by omega)) i) (fun b i b1 b2 _ => congrFun (hn.2.2 b (by omega)) i) (fun i _ => congrFun (hn.2.2 68 (by omega)) i)⟩
theorem Sqh_c {M N : Mem} {s : Nat} {lw : Law} {bd : Int32} (h : Sqh M s lw bd) (h1 : isK N s 7 = true) (h4 : isK N (s + 1) 14 = true) (h5 : mG N (s + 1) = 100) (h6 : mR N s 0 = some (s + 1)) (e1 : N.2.1 s = M.2.1 s) (e2 : N.2.1 (s + 1) = M.2.1 (s + 1)) : Sqh N s lw bd := by
  obtain ⟨g1, g2, g3, g4, g5, g6, g7, g8⟩ := h
  exact ⟨h1, by unfold mI at *; rw [e1]; exact g2, g3, h4, h5, h6, g7, fun P f i1 i2 i3 i4 i5 i6 i7 i8 => g8 P f i1 i2 i3 i4 (i5.trans e1) (i6.trans e2) i7 i8⟩
theorem Mqh_c {M N : Mem} {j : Int32} {lw : Law} {bd : Int32} (h : Mqh M j lw bd) (e14 : mI N 55 14 = mI M 55 14) (e22 : mI N 55 22 = mI M 55 22) (e : ∀ a, 63 ≤ a ∧ a ≤ 68 → N.2.1 a = M.2.1 a) : Mqh N j lw bd := ⟨h.1, fun P hS hj h63 hw hc => h.2 P hS hj (fun i hi => (h63 i (by rw [e14]; exact hi)).trans (congrFun (e 63 (by omega)) i)) (fun b i b1 b2 hi => (hw b i b1 b2 (by rw [e14]; exact hi)).trans (congrFun (e b (by omega)) i)) (fun i hi => (hc i (by rw [e22]; exact hi)).trans (congrFun (e 68 (by omega)) i))⟩
/-! ===== the invariant ===== -/
def Hz (H : Hall) : Prop := ∃ n, n ≤ 6 ∧ H 6 1 = nI n ∧ ∀ p, n ≤ p → p < 6 → H 4 p = 0 ∧ ∀ i, i < 4 → H 5 (4 * p + i) = 0
def RSeen (M : Mem) (a : Nat) (S : Nat → Int32) : Prop := ∃ c, c ≤ 5 ∧ mI M a 2 = nI c ∧ S 126 = nI c ∧ (∀ i, i < 5 → mI M (a + 1) (i * 3) = S (73 + i) ∧ mI M (a + 1) (i * 3 + 1) = S (78 + i) ∧ mI M (a + 1) (i * 3 + 2) = S (83 + i)) ∧ ∀ i, i < c → (∃ p, p < 6 ∧ S (73 + i) = nI p) ∧ ∃ h, h ≤ 8 ∧ S (78 + i) = nI h
def RPlan (M : Mem) (a : Nat) (S : Nat → Int32) : Prop := ∃ c, c ≤ 10 ∧ mI M a 2 = nI c ∧ S 127 = nI c ∧ (∀ i, i < 10 → mI M (a + 1) (i * 3) = S (88 + i) ∧ mI M (a + 1) (i * 3 + 1) = S (98 + i)) ∧ ∀ i, i < c → S (88 + i) = 0 ∨ (S (88 + i) = 1 ∧ ∃ w, w < 25 ∧ S (98 + i) = nI w) ∨ ((S (88 + i) = 2 ∨ S (88 + i) = 3) ∧ ∃ p, p < 6 ∧ S (98 + i) = nI p)
def RBook (M : Mem) (a : Nat) (S : Nat → Int32) : Prop := ∃ c, c ≤ 8 ∧ mI M a 2 = nI c ∧ S 128 = nI c ∧ (∀ i, i < 8 → mI M (a + 1) (i * 3) = S (108 + i) ∧ mI M (a + 1) (i * 3 + 1) = S (116 + i)) ∧ ∀ i, i < c → ∃ p, p < 6 ∧ S (108 + i) = nI p
/-- the class's hall o, rows a, b, c are the numbers S; n statutes there are -/
def St (M : Mem) (o a b c : Nat) (S : Nat → Int32) (n : Nat) : Prop := hC M o = hV S ∧ Hb 9999 (hV S) ∧ Hz (hV S) ∧ (∃ h, h ≤ n ∧ mR M o 1 = some (sidO h) ∧ S 129 = hI h) ∧ RSeen M a S ∧ RPlan M b S ∧ RBook M c S
def ILaw (M : Mem) (n : Nat) : Prop := n ≤ 6 ∧ mI M 0 13 = nI n ∧ mI M 55 14 = nI n ∧ mN M = 85 + 2 * n ∧ mR M 0 12 = some (sidO (n + 1)) ∧ (isK M (sidO (n + 1)) 7 = true ∧ mR M (sidO (n + 1)) 0 = some (sidO (n + 1) + 1) ∧ isK M (sidO (n + 1) + 1) 14 = true ∧ mG M (sidO (n + 1) + 1) = 100) ∧ (∃ cd, cd ≤ 100 * n ∧ mI M 55 22 = nI cd) ∧ ∀ h, h ≤ n → ∃ lw bd, bd ≤ 99 ∧ Sqh M (sidO h) lw (nI bd) ∧ Mqh M (hI h) lw (nI bd)
def ILim (M : Mem) : Prop := mI M 1 0 = 5 ∧ mI M 3 0 = 10 ∧ mI M 5 0 = 8
def IText (M : Mem) : Prop := ∃ t, t ≤ 100 ∧ mI M 0 11 = nI t ∧ mI M 55 8 = nI t ∧ ∀ i, i < t → ∃ b, b < 128 ∧ mI M 13 i = nI b ∧ mI M 62 i = nI b
def IDeed (M : Mem) : Prop := ∃ b, b ≤ 100 ∧ mI M 16 2 = nI b ∧ mI M 55 34 = nI b ∧ ∀ i, i < 20 → i < b → mI M 17 i = mI M 77 i
def ITape (M : Mem) : Prop := ∀ t, t < 6 → mI M 18 t = mI M 82 t ∧ (mI M 18 t = -1 ∨ (∃ s, s ≤ 4 ∧ mI M 18 t = nI s) ∧ ∃ l, l ≤ 60 ∧ mI M 19 t = nI l ∧ mI M 83 t = nI l ∧ ∀ i, i < l → mL M 20 (t * 60 + i) = mL M 84 (t * 60 + i))
def IImg (M : Mem) (n : Nat) : Prop := (mI M 0 5 = 0 ∧ mI M 55 36 = 0) ∨ (mI M 0 5 = 1 ∧ mI M 55 36 = 1 ∧ St M 47 7 9 11 (mI M 78) n)
def Inv (M : Mem) (n : Nat) : Prop := Sh M ∧ St M 31 1 3 5 (sv M) n ∧ ILaw M n ∧ ILim M ∧ IText M ∧ IDeed M ∧ ITape M ∧ IImg M n
