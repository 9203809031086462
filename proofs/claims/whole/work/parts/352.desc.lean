/-! ===== a young memory, described ===== -/
def rlk : List (Nat × Nat × Nat) → Nat → Nat → Option Nat
  | [], _, _ => none
  | q :: r, a, i => if a = q.1 ∧ i = q.2.1 then some q.2.2 else rlk r a i
def ilk : List (Nat × (Nat → Int32)) → Nat → Nat → Int32
  | [], _, _ => 0
  | q :: r, a, i => if a = q.1 then q.2 i else ilk r a i
def Ds (M : Mem) (kl : List (Nat × Nat)) (rl : List (Nat × Nat × Nat)) (il : List (Nat × (Nat → Int32))) : Prop := mN M = kl.length ∧ (∀ a q, kl[a]? = some q → mK M a = q.1 ∧ mG M a = q.2) ∧ (∀ a i, mR M a i = rlk rl a i) ∧ (∀ a i, mI M a i = ilk il a i) ∧ (∀ a i, mL M a i = 0) ∧ (∀ q, q ∈ rl → q.1 < kl.length) ∧ ∀ q, q ∈ il → q.1 < kl.length
theorem rlk_no : ∀ (rl : List (Nat × Nat × Nat)) (a i : Nat), (∀ q, q ∈ rl → q.1 < a) → rlk rl a i = none := by
  intro rl
  induction rl with
  | nil => intro a i _; rfl
  | cons q r ih =>
    intro a i h
    have := h q List.mem_cons_self
    show (if a = q.1 ∧ i = q.2.1 then some q.2.2 else rlk r a i) = none
    rw [if_neg (by omega)]
    exact ih a i (fun p hp => h p (List.mem_cons_of_mem _ hp))
theorem ilk_no : ∀ (il : List (Nat × (Nat → Int32))) (a i : Nat), (∀ q, q ∈ il → q.1 < a) → ilk il a i = 0 := by
  intro il
  induction il with
  | nil => intro a i _; rfl
  | cons q r ih =>
    intro a i h
    have := h q List.mem_cons_self
    show (if a = q.1 then q.2 i else ilk r a i) = 0
    rw [if_neg (by omega)]
    exact ih a i (fun p hp => h p (List.mem_cons_of_mem _ hp))
section DS
variable {M : Mem} {kl : List (Nat × Nat)} {rl : List (Nat × Nat × Nat)} {il : List (Nat × (Nat → Int32))}
theorem ds_0 : Ds M0 [] [] [] := ⟨rfl, fun a q h => (by cases h), fun _ _ => rfl, fun _ _ => rfl, fun _ _ => rfl, fun q h => (by cases h), fun q h => (by cases h)⟩
theorem ds_alc (h : Ds M kl rl il) (k g : Nat) : Ds (alc M k g) (kl ++ [(k, g)]) rl il := by
  obtain ⟨h1, h2, h3, h4, h5, h6, h7⟩ := h
  have l : (kl ++ [(k, g)]).length = kl.length + 1 := by rw [List.length_append]; rfl
  refine ⟨by rw [mN_alc, h1, l], fun a q hq => ?_, fun a i => ?_, fun a i => ?_, fun a i => ?_, fun q hq => by have := h6 q hq; omega, fun q hq => by have := h7 q hq; omega⟩
  · rw [mK_alc, mG_alc, h1]
    by_cases e : a = kl.length
    · subst e
      rw [List.getElem?_concat_length] at hq
      cases hq
      rw [if_pos rfl, if_pos rfl]
      exact ⟨rfl, rfl⟩
    · have ha := (List.getElem?_eq_some_iff.mp hq).1
      rw [l] at ha
      rw [List.getElem?_append_left (by omega)] at hq
      rw [if_neg e, if_neg e]
      exact h2 a q hq
  · rw [mR_alc, h1]
    by_cases e : a = kl.length
    · rw [if_pos e, rlk_no rl a i (fun q hq => by have := h6 q hq; omega)]
    · rw [if_neg e]
      exact h3 a i
  · rw [mI_alc, h1]
    by_cases e : a = kl.length
    · rw [if_pos e, ilk_no il a i (fun q hq => by have := h7 q hq; omega)]
    · rw [if_neg e]
      exact h4 a i
  · rw [mL_alc]
    split
    · rfl
    · exact h5 a i
theorem ds_stR (h : Ds M kl rl il) {a i r : Nat} (ha : a < kl.length) : Ds (stR M a i (some r)) kl ((a, i, r) :: rl) il := by
  obtain ⟨h1, h2, h3, h4, h5, h6, h7⟩ := h
  refine ⟨h1, h2, fun b j => ?_, h4, h5, fun q hq => ?_, h7⟩
  · rw [mR_stR]
    show _ = if b = a ∧ j = i then some r else rlk rl b j
    rw [h3]
  · rcases List.mem_cons.mp hq with e | hq
    · rw [e]
      exact ha
    · exact h6 q hq
theorem ds_wF (h : Ds M kl rl il) {a : Nat} {F : Nat → Int32} (ha : a < kl.length) : Ds (wF M a F) kl rl ((a, F) :: il) := by
  obtain ⟨h1, h2, h3, h4, h5, h6, h7⟩ := h
  refine ⟨h1, h2, h3, fun b j => ?_, h5, h6, fun q hq => ?_⟩
  · rw [mI_wF]
    show _ = if b = a then F j else ilk il b j
    rw [h4]
  · rcases List.mem_cons.mp hq with e | hq
    · rw [e]
      exact ha
    · exact h7 q hq
theorem ds_stI (h : Ds M kl rl il) {a i : Nat} {x : Int32} (ha : a < kl.length) : Ds (stI M a i x) kl rl ((a, upd (ilk il a) i x) :: il) := by
  have e : mI M a = ilk il a := funext (h.2.2.2.1 a)
  rw [stI_row_eq, e]
  exact ds_wF h ha
theorem ds_k (h : Ds M kl rl il) {a c g : Nat} (e : kl[a]? = some (c, g)) : isK M a c = true := by
  have ha := (List.getElem?_eq_some_iff.mp e).1
  unfold isK
  rw [h.1, (h.2.1 a _ e).1, decide_eq_true ha, decide_eq_true rfl]
  rfl
theorem ds_g (h : Ds M kl rl il) {a c g : Nat} (e : kl[a]? = some (c, g)) : mG M a = g := (h.2.1 a _ e).2
theorem ds_kl (kl : List (Nat × Nat)) (q : Nat × Nat) : (kl ++ [q])[kl.length]? = some q := List.getElem?_concat_length
theorem ds_old {q : Nat × Nat} {a : Nat} {p : Nat × Nat} (e : kl[a]? = some p) : (kl ++ [q])[a]? = some p := by
  rw [List.getElem?_append_left (List.getElem?_eq_some_iff.mp e).1]
  exact e
theorem ds_len {kl : List (Nat × Nat)} {q : Nat × Nat} : (kl ++ [q]).length = kl.length + 1 := by
  rw [List.length_append]
  rfl
/-! the little makers -/
theorem p_i7 (h : Ds M kl rl il) {a g : Nat} (e : kl[a]? = some (7, g)) : ∃ N, fX7_init M a = some ((), N) ∧ Ds N (kl ++ [(14, 100)]) ((a, 0, kl.length) :: rl) ((a, upd (ilk il a) 2 95) :: il) := by
  have ha := (List.getElem?_eq_some_iff.mp e).1
  have h1 := ds_alc h 14 100
  have h2 := ds_stR h1 (a := a) (i := 0) (r := kl.length) (by rw [ds_len]; omega)
  have h3 := ds_stI h2 (a := a) (i := 2) (x := 95) (by rw [ds_len]; omega)
  refine ⟨_, ?_, h3⟩
  unfold fX7_init
  rw [nm_s, ds_k h1 (ds_old e), ck_t, h.1]
theorem p_i1 (h : Ds M kl rl il) {a g : Nat} (e : kl[a]? = some (1, g)) : ∃ N, fX1_init M a = some ((), N) ∧ Ds N (kl ++ [(14, 20)]) ((a, 3, kl.length) :: rl) il := by
  have ha := (List.getElem?_eq_some_iff.mp e).1
  have h1 := ds_alc h 14 20
  have h2 := ds_stR h1 (a := a) (i := 3) (r := kl.length) (by rw [ds_len]; omega)
  refine ⟨_, ?_, h2⟩
  unfold fX1_init
  rw [nm_s, ds_k h1 (ds_old e), ck_t, h.1]
theorem p_i5 (h : Ds M kl rl il) {a g L : Nat} (e : kl[a]? = some (5, g)) (hL : L ≤ 10) : ∃ N, fX5_init M a (nI L) = some ((), N) ∧ Ds N (kl ++ [(14, L * 3)]) ((a, 1, kl.length) :: rl) ((a, upd (ilk il a) 0 (nI L)) :: il) := by
  have ha := (List.getElem?_eq_some_iff.mp e).1
  have h0 := ds_stI h (a := a) (i := 0) (x := nI L) ha
  have h1 := ds_alc h0 14 (L * 3)
  have h2 := ds_stR h1 (a := a) (i := 1) (r := kl.length) (by rw [ds_len]; omega)
  have e3 : nI L * 3 = nI (L * 3) := by rw [show (3 : Int32) = nI 3 from rfl, pk_mul]
  refine ⟨_, ?_, h2⟩
  unfold fX5_init
  rw [ds_k h e, ck_t, e3, decide_eq_true (nI_pos (show L * 3 < 2 ^ 31 by omega)), ck_t, tn (show L * 3 < 1000000 by omega), decide_eq_true (show L * 3 ≤ 30 by omega), ck_t, nm_s, ds_k h1 (ds_old e), ck_t, h0.1]
/-- a row of wear at first -/
def w5 (k : Nat) : Nat → Int32 := fun i => if i < k then 5 else 0
def w1 (k : Nat) : Nat → Int32 := fun i => if i < k then -1 else 0
theorem w5_s (k : Nat) : upd (w5 k) k 5 = w5 (k + 1) := by
  funext i
  unfold w5
  by_cases e : i = k
  · rw [e, pk_us, if_pos (by omega)]
  · rw [pk_un e]
    by_cases g : i < k
    · rw [if_pos g, if_pos (by omega)]
    · rw [if_neg g, if_neg (by omega)]
theorem w1_s (k : Nat) : upd (w1 k) k (-1) = w1 (k + 1) := by
  funext i
  unfold w1
  by_cases e : i = k
  · rw [e, pk_us, if_pos (by omega)]
  · rw [pk_un e]
    by_cases g : i < k
    · rw [if_pos g, if_pos (by omega)]
    · rw [if_neg g, if_neg (by omega)]
theorem wF_w {M : Mem} {a : Nat} {F : Nat → Int32} (h : mI M a = F) : wF M a F = M := by
  rw [← h]
  exact wF_self M a
theorem p_l72 {M : Mem} {o a : Nat} (k1 : isK M o 3 = true) (r1 : mR M o 3 = some a) (k2 : isK M a 14 = true) (g2 : mG M a = 25) : ∀ (k m i : Nat), i + k = 25 → gX3_init_72 (m + k + 1) (wF M a (w5 i)) o (nI i) = some ((), wF M a (w5 25)) := by
  intro k
  induction k with
  | zero =>
    intro m i hi
    have : i = 25 := by omega
    subst this
    rw [gX3_init_72_s, if_pos (by decide)]
  | succ k ih =>
    intro m i hi
    rw [show m + (k + 1) + 1 = (m + k + 1) + 1 by omega, gX3_init_72_s, if_neg (ge25 (by omega)), isK_wF, k1, ck_t, mR_wF, r1, rb_s, isK_wF, k2, ck_t, mG_wF, g2, inb_n (show i < 25 by omega) (by decide), ck_t, tn (show i < 1000000 by omega), stI_wF, w5_s, nI_1]
    exact ih m (i + 1) (by omega)
theorem p_l261 {M : Mem} {o a : Nat} (k1 : isK M o 11 = true) (r1 : mR M o 15 = some a) (k2 : isK M a 14 = true) (g2 : mG M a = 6) : ∀ (k m i : Nat), i + k = 6 → gX11_init_261 (m + k + 1) (wF M a (w1 i)) o (nI i) = some ((), wF M a (w1 6)) := by
  intro k
  induction k with
  | zero =>
    intro m i hi
    have : i = 6 := by omega
    subst this
    rw [gX11_init_261_s, if_pos (by decide)]
  | succ k ih =>
    intro m i hi
    rw [show m + (k + 1) + 1 = (m + k + 1) + 1 by omega, gX11_init_261_s, if_neg (by rw [show (6 : Int32) = nI 6 from rfl, leL (by omega) (by omega)]; omega), isK_wF, k1, ck_t, mR_wF, r1, rb_s, isK_wF, k2, ck_t, mG_wF, g2, inb_n (show i < 6 by omega) (by decide), ck_t, tn (show i < 1000000 by omega), stI_wF, w1_s, nI_1]
    exact ih m (i + 1) (by omega)
theorem p_l266 {M : Mem} {o a : Nat} (k1 : isK M o 12 = true) (r1 : mR M o 41 = some a) (k2 : isK M a 14 = true) (g2 : mG M a = 6) : ∀ (k m i : Nat), i + k = 6 → gX12_init_266 (m + k + 1) (wF M a (w1 i)) o (nI i) = some ((), wF M a (w1 6)) := by
  intro k
  induction k with
  | zero =>
    intro m i hi
    have : i = 6 := by omega
    subst this
    rw [gX12_init_266_s, if_pos (by decide)]
  | succ k ih =>
    intro m i hi
    rw [show m + (k + 1) + 1 = (m + k + 1) + 1 by omega, gX12_init_266_s, if_neg (by rw [show (6 : Int32) = nI 6 from rfl, leL (by omega) (by omega)]; omega), isK_wF, k1, ck_t, mR_wF, r1, rb_s, isK_wF, k2, ck_t, mG_wF, g2, inb_n (show i < 6 by omega) (by decide), ck_t, tn (show i < 1000000 by omega), stI_wF, w1_s, nI_1]
    exact ih m (i + 1) (by omega)
theorem p_l240 {M : Mem} {o a : Nat} (k1 : isK M o 12 = true) (r1 : mR M o 0 = some a) (k2 : isK M a 14 = true) (g2 : mG M a = 25) : ∀ (k m i : Nat), i + k = 25 → gX12_init_240 (m + k + 1) (wF M a (w5 i)) o (nI i) = gX12_init_266 FU (stI (wF M a (w5 25)) o 15 (-1)) o 0 := by
  intro k
  induction k with
  | zero =>
    intro m i hi
    have : i = 25 := by omega
    subst this
    rw [gX12_init_240_s, if_pos (by decide), isK_wF, k1, ck_t]
  | succ k ih =>
    intro m i hi
    rw [show m + (k + 1) + 1 = (m + k + 1) + 1 by omega, gX12_init_240_s, if_neg (ge25 (by omega)), isK_wF, k1, ck_t, mR_wF, r1, rb_s, isK_wF, k2, ck_t, mG_wF, g2, inb_n (show i < 25 by omega) (by decide), ck_t, tn (show i < 1000000 by omega), stI_wF, w5_s, nI_1]
    exact ih m (i + 1) (by omega)
end DS
/-! ===== doing what makes objects ===== -/
def Go (kl : List (Nat × Nat)) (rl : List (Nat × Nat × Nat)) (il : List (Nat × (Nat → Int32))) (o : Option (Unit × Mem)) : Prop := ∃ N, o = some ((), N) ∧ Ds N kl rl il
section GO
variable {kl : List (Nat × Nat)} {rl : List (Nat × Nat × Nat)} {il : List (Nat × (Nat → Int32))}
theorem go_nm {a : Mem} {k : Mem → Option (Unit × Mem)} (kl1 : List (Nat × Nat)) (rl1 : List (Nat × Nat × Nat)) (il1 : List (Nat × (Nat → Int32))) (h : Ds a kl1 rl1 il1) (g : ∀ x, Ds x kl1 rl1 il1 → Go kl rl il (k x)) : Go kl rl il (nm a k) := g a h
theorem go_ck {b : Bool} {k : Option (Unit × Mem)} (h : b = true) (g : Go kl rl il k) : Go kl rl il (ck b k) := by
  rw [h, ck_t]
  exact g
theorem go_bd {o : Option (Unit × Mem)} {k : Unit → Mem → Option (Unit × Mem)} {kl1 : List (Nat × Nat)} {rl1 : List (Nat × Nat × Nat)} {il1 : List (Nat × (Nat → Int32))} (h : Go kl1 rl1 il1 o) (g : ∀ M, Ds M kl1 rl1 il1 → Go kl rl il (k () M)) : Go kl rl il (bd o k) := by
  obtain ⟨N, n1, n2⟩ := h
  rw [n1, bd_s]
  exact g N n2
end GO
/-! ===== the same, in other words ===== -/
def f1 (i : Nat) (x : Int32) : Nat → Int32 := fun j => if j = i then x else 0
theorem Ds_i {M : Mem} {kl : List (Nat × Nat)} {rl : List (Nat × Nat × Nat)} {il jl : List (Nat × (Nat → Int32))} (h : Ds M kl rl il) (e : ∀ a i, ilk il a i = ilk jl a i) (hb : ∀ q, q ∈ jl → q.1 < kl.length) : Ds M kl rl jl := ⟨h.1, h.2.1, h.2.2.1, fun a i => (h.2.2.2.1 a i).trans (e a i), h.2.2.2.2.1, h.2.2.2.2.2.1, hb⟩
section DS2
variable {M : Mem} {kl : List (Nat × Nat)} {rl : List (Nat × Nat × Nat)} {il : List (Nat × (Nat → Int32))}
theorem ilk_f {a i : Nat} {x : Int32} (hz : ∀ j, ilk il a j = 0) : ∀ b j, ilk ((a, upd (ilk il a) i x) :: il) b j = ilk ((a, f1 i x) :: il) b j := by
  intro b j
  show (if b = a then upd (ilk il a) i x j else ilk il b j) = (if b = a then f1 i x j else ilk il b j)
  by_cases e : b = a
  · rw [if_pos e, if_pos e]
    unfold f1
    by_cases e2 : j = i
    · rw [e2, pk_us, if_pos rfl]
    · rw [pk_un e2, if_neg e2, hz]
  · rw [if_neg e, if_neg e]
theorem ds_f (h : Ds M kl rl il) {a i : Nat} {x : Int32} (ha : a < kl.length) (hz : ∀ j, ilk il a j = 0) : Ds (stI M a i x) kl rl ((a, f1 i x) :: il) := by
  refine Ds_i (ds_stI h ha) (ilk_f hz) (fun q hq => ?_)
  rcases List.mem_cons.mp hq with e | hq
  · rw [e]
    exact ha
  · exact h.2.2.2.2.2.2 q hq
theorem q_i7 (h : Ds M kl rl il) {a g : Nat} (e : kl[a]? = some (7, g)) (hz : ∀ j, ilk il a j = 0) : Go (kl ++ [(14, 100)]) ((a, 0, kl.length) :: rl) ((a, f1 2 95) :: il) (fX7_init M a) := by
  have ha := (List.getElem?_eq_some_iff.mp e).1
  obtain ⟨N, n1, n2⟩ := p_i7 h e
  refine ⟨N, n1, Ds_i n2 (ilk_f hz) (fun q hq => ?_)⟩
  rcases List.mem_cons.mp hq with e | hq
  · rw [e, ds_len]
    show a < kl.length + 1
    omega
  · have := h.2.2.2.2.2.2 q hq
    rw [ds_len]
    omega
theorem q_i5 (h : Ds M kl rl il) {a g L : Nat} (e : kl[a]? = some (5, g)) (hL : L ≤ 10) (hz : ∀ j, ilk il a j = 0) : Go (kl ++ [(14, L * 3)]) ((a, 1, kl.length) :: rl) ((a, f1 0 (nI L)) :: il) (fX5_init M a (nI L)) := by
  have ha := (List.getElem?_eq_some_iff.mp e).1
  obtain ⟨N, n1, n2⟩ := p_i5 h e hL
  refine ⟨N, n1, Ds_i n2 (ilk_f hz) (fun q hq => ?_)⟩
  rcases List.mem_cons.mp hq with e | hq
  · rw [e, ds_len]
    show a < kl.length + 1
    omega
  · have := h.2.2.2.2.2.2 q hq
    rw [ds_len]
    omega
theorem w5_0 : w5 0 = fun _ => 0 := by
  funext i
  exact if_neg (Nat.not_lt_zero _)
theorem w1_0 : w1 0 = fun _ => 0 := by
  funext i
  exact if_neg (Nat.not_lt_zero _)
theorem q_i3 (h : Ds M kl rl il) {a g a1 a2 n : Nat} (e : kl[a]? = some (3, g)) (hn : kl.length = n) (hz : ∀ j, ilk il n j = 0) : Go (kl ++ [(14, 25)] ++ [(14, 6)] ++ [(14, 6)] ++ [(14, 6)] ++ [(16, 6)] ++ [(14, 24)] ++ [(14, 6)]) ((a, 1, a2) :: (a, 0, a1) :: (a, 10, n + 6) :: (a, 9, n + 5) :: (a, 8, n + 4) :: (a, 7, n + 3) :: (a, 6, n + 2) :: (a, 5, n + 1) :: (a, 3, n) :: rl) ((n, w5 25) :: il) (fX3_init M a a1 a2) := by
  have ha := (List.getElem?_eq_some_iff.mp e).1
  have l1 : (kl ++ [(14, 25)]).length = n + 1 := by rw [ds_len, hn]
  have l2 : (kl ++ [(14, 25)] ++ [(14, 6)]).length = n + 2 := by rw [ds_len, l1]
  have l3 : (kl ++ [(14, 25)] ++ [(14, 6)] ++ [(14, 6)]).length = n + 3 := by rw [ds_len, l2]
  have l4 : (kl ++ [(14, 25)] ++ [(14, 6)] ++ [(14, 6)] ++ [(14, 6)]).length = n + 4 := by rw [ds_len, l3]
  have l5 : (kl ++ [(14, 25)] ++ [(14, 6)] ++ [(14, 6)] ++ [(14, 6)] ++ [(16, 6)]).length = n + 5 := by rw [ds_len, l4]
  have l6 : (kl ++ [(14, 25)] ++ [(14, 6)] ++ [(14, 6)] ++ [(14, 6)] ++ [(16, 6)] ++ [(14, 24)]).length = n + 6 := by rw [ds_len, l5]
  have l7 : (kl ++ [(14, 25)] ++ [(14, 6)] ++ [(14, 6)] ++ [(14, 6)] ++ [(16, 6)] ++ [(14, 24)] ++ [(14, 6)]).length = n + 7 := by rw [ds_len, l6]
  have e1 := ds_old (q := (14, 25)) e
  have e2 := ds_old (q := (14, 6)) e1
  have e3 := ds_old (q := (14, 6)) e2
  have e4 := ds_old (q := (14, 6)) e3
  have e5 := ds_old (q := (16, 6)) e4
  have e6 := ds_old (q := (14, 24)) e5
  have e7 := ds_old (q := (14, 6)) e6
  unfold fX3_init
  simp only [mN_stR]
  have n0 : mN M = n := h.1.trans hn
  rw [n0]
  refine go_nm _ _ _ (ds_alc h 14 25) (fun M1 d1 => go_ck (ds_k d1 e1) ?_)
  have n1 : mN M1 = n + 1 := d1.1.trans l1
  rw [n1]
  refine go_nm _ _ _ (ds_alc (ds_stR d1 (by omega)) 14 6) (fun M3 d3 => go_ck (ds_k d3 e2) ?_)
  have n3 : mN M3 = n + 2 := d3.1.trans l2
  rw [n3]
  refine go_nm _ _ _ (ds_alc (ds_stR d3 (by omega)) 14 6) (fun M5 d5 => go_ck (ds_k d5 e3) ?_)
  have n5 : mN M5 = n + 3 := d5.1.trans l3
  rw [n5]
  refine go_nm _ _ _ (ds_alc (ds_stR d5 (by omega)) 14 6) (fun M7 d7 => go_ck (ds_k d7 e4) ?_)
  have n7 : mN M7 = n + 4 := d7.1.trans l4
  rw [n7]
  refine go_nm _ _ _ (ds_alc (ds_stR d7 (by omega)) 16 6) (fun M9 d9 => go_ck (ds_k d9 e5) ?_)
  have n9 : mN M9 = n + 5 := d9.1.trans l5
  rw [n9]
  refine go_nm _ _ _ (ds_alc (ds_stR d9 (by omega)) 14 24) (fun M11 d11 => go_ck (ds_k d11 e6) ?_)
  refine go_nm _ _ _ (ds_stR d11 (by omega)) (fun M13 d13 => ?_)
  have n13 : mN M13 = n + 6 := d13.1.trans l6
  rw [n13]
  refine go_nm _ _ _ (ds_alc d13 14 6) (fun M14 d14 => go_ck (ds_k d14 e7) ?_)
  have dF := ds_stR (i := 1) (r := a2) (ds_stR (i := 0) (r := a1) (ds_stR (a := a) (i := 10) (r := n + 6) d14 (by omega)) (a := a) (by omega)) (a := a) (by omega)
  have en : (kl ++ [(14, 25)] ++ [(14, 6)] ++ [(14, 6)] ++ [(14, 6)] ++ [(16, 6)] ++ [(14, 24)] ++ [(14, 6)])[n]? = some (14, 25) := by
    have : (kl ++ [(14, 25)])[n]? = some (14, 25) := by rw [← hn]; exact ds_kl kl (14, 25)
    exact ds_old (ds_old (ds_old (ds_old (ds_old (ds_old this)))))
  have r3 : mR (stR (stR (stR M14 a 10 (some (n + 6))) a 0 (some a1)) a 1 (some a2)) a 3 = some n := by
    rw [dF.2.2.1]
    show (if a = a ∧ 3 = 1 then _ else if a = a ∧ 3 = 0 then _ else if a = a ∧ 3 = 10 then _ else if a = a ∧ 3 = 9 then _ else if a = a ∧ 3 = 8 then _ else if a = a ∧ 3 = 7 then _ else if a = a ∧ 3 = 6 then _ else if a = a ∧ 3 = 5 then _ else if a = a ∧ 3 = 3 then _ else _) = _
    rw [if_neg (by omega), if_neg (by omega), if_neg (by omega), if_neg (by omega), if_neg (by omega), if_neg (by omega), if_neg (by omega), if_neg (by omega), if_pos ⟨rfl, rfl⟩]
  obtain ⟨m, hm⟩ := FUs 25 (by decide)
  have u := p_l72 (ds_k dF e7) r3 (ds_k dF en) (ds_g dF en) 25 m 0 rfl
  rw [← hm, wF_w (by rw [w5_0]; funext j; rw [dF.2.2.2.1]; exact hz j)] at u
  exact ⟨_, u, ds_wF dF (by omega)⟩
end DS2
