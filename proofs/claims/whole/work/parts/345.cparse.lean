/-! ===== the class reads: factors, wholes, clauses, statutes ===== -/
theorem rgA_0 (n : Nat) (M : Mem) (s : Nat) (d : Int32) : rgA (n + 1) 0 M s d = gX7_readEither_7 (rgA n 0) (rgA n 1) FU M s d 0 0 0 := rfl
theorem rgA_1 (n : Nat) (M : Mem) (s : Nat) (d : Int32) : rgA (n + 1) 1 M s d = bX7_readFactor (rgA n 0) (rgA n 1) M s d := rfl
theorem b2_0 {b : Bool} : b2 b = 0 ↔ ¬ b = true := by
  cases b <;> decide
theorem b2_t {b : Bool} (h : b = true) : b2 b = 1 := if_pos h
theorem b2_f {b : Bool} (h : ¬ b = true) : b2 b = 0 := if_neg h
section CREAD2
variable {M0 : Mem} {s t : Nat} {tx : Nat → Nat}
/-- the class's reader F1 at a depth reads as F does -/
def SF (M0 : Mem) (s t : Nat) (tx : Nat → Nat) (F1 : Mem → Nat → Int32 → Option (Int32 × Mem)) (d : Int32) (F : Nat → Res) : Prop := ∀ (M : Mem) (a : Nat) (ss : List Nat) (bv : Int32), CP M0 s t tx M a ss bv → ss.length ≤ a → ∃ N, F1 M s d = some (b2 (F a).1, N) ∧ CP M0 s t tx N (F a).2.1 (ss ++ (F a).2.2.map cv) bv
theorem c_L (e : CE M0 s t tx) {F0 F1 : Mem → Nat → Int32 → Option (Int32 × Mem)} {d : Int32} {F : Nat → Res} (hF : SF M0 s t tx F1 d F) (hR : Rd t F) : ∀ (r m i : Nat) (aw ow : Bool) (M : Mem) (a : Nat) (s0 : List Nat) (cs : List Nat) (bv : Int32), i + r = 100 → CP M0 s t tx M a (s0 ++ cs.map cv) bv → s0.length + cs.length + bn aw + bn ow ≤ a → ∃ N, gX7_readEither_7 F0 F1 (m + r + 1) M s d (b2 aw) (b2 ow) (nI i) = some (b2 (pL t tx F r aw ow a cs).1, N) ∧ CP M0 s t tx N (pL t tx F r aw ow a cs).2.1 (s0 ++ (pL t tx F r aw ow a cs).2.2.map cv) bv := by
  have ht1 := e.2.2.2.2.2.2.2.2.1
  intro r
  induction r with
  | zero =>
    intro m i aw ow M a s0 cs bv hi h hl
    have : i = 100 := by omega
    subst this
    refine ⟨M, ?_, h⟩
    rw [gX7_readEither_7_s, if_pos (by decide)]
    rfl
  | succ r ih =>
    intro m i aw ow M a s0 cs bv hi h hl
    have m1 := (CE_M e h.1).1
    have ha := h.2.2.2.1
    obtain ⟨f1, f2, f3, f4, f5⟩ := hR a ha
    obtain ⟨N, n1, n2⟩ := hF M a _ bv h (by rw [List.length_append, List.length_map]; omega)
    have m1N := (CE_M e n2.1).1
    rw [show m + (r + 1) + 1 = (m + r + 1) + 1 by omega, gX7_readEither_7_s, if_neg (by rw [show (100 : Int32) = nI 100 from rfl, leL (by omega) (by omega)]; omega), m1, ck_t, n1, bd_s]
    unfold pL
    by_cases g : (F a).1 = true
    · rw [if_pos g, b2_t g, if_neg n10]
      -- AND, if it waits
      have sA : ∃ P, (if b2 aw = 0 then gX7_readEither_34 F0 F1 (gX7_readEither_7 F0 F1 (m + r + 1)) N s d (b2 ow) (nI i) else (ck (isK N s 7) <| bd (fX7_addStep N s (2 : Int32) (0 : Int32)) fun x10 M10 => gX7_readEither_34 F0 F1 (gX7_readEither_7 F0 F1 (m + r + 1)) M10 s d (b2 ow) (nI i))) = gX7_readEither_34 F0 F1 (gX7_readEither_7 F0 F1 (m + r + 1)) P s d (b2 ow) (nI i) ∧ CP M0 s t tx P (F a).2.1 (s0 ++ (cs ++ (F a).2.2 ++ (if aw = true then [1] else [])).map cv) bv := by
        cases aw with
        | false =>
          refine ⟨N, if_pos (by decide), ?_⟩
          rw [show (if false = true then [1] else []) = ([] : List Nat) from rfl, List.append_nil, List.map_append, ← List.append_assoc]
          exact n2
        | true =>
          have b1 : bn true = 1 := rfl
          obtain ⟨P, p1, p2⟩ := c_add e n2 (by rw [List.length_append, List.length_append, List.length_map, List.length_map]; omega) (x := 2) (y := 0) (c := cv 1) (by decide)
          refine ⟨P, by rw [if_neg (by decide), m1N, ck_t, p1, bd_s], ?_⟩
          rw [show (if true = true then [1] else []) = [1] from rfl, List.map_append, List.map_append, ← List.append_assoc, ← List.append_assoc]
          exact p2
      obtain ⟨P, p1, p2⟩ := sA
      have m1P := (CE_M e p2.1).1
      have h7P := p2.2.2.2.2.2.2.1
      rw [p1]
      unfold gX7_readEither_34
      rw [m1P, ck_t, h7P]
      have lP : (s0 ++ (cs ++ (F a).2.2 ++ (if aw = true then [1] else [])).map cv).length = s0.length + (cs.length + (F a).2.2.length + bn aw) := by
        rw [List.length_append, List.length_map, List.length_append, List.length_append, bl_len]
      by_cases g1 : nx t tx (F a).2.1 = 38
      · rw [if_pos g1, if_pos g1]
        have hl1 := nx_lt' g1 (by decide)
        obtain ⟨Q, q1, q2⟩ := c_goTo e p2 hl1
        unfold gX7_readEither_48 gX7_readEither_84
        rw [if_neg n10, m1P, ck_t, q1, bd_s, nI_1]
        have b1 : bn true = 1 := rfl
        exact ih m (i + 1) true ow Q ((F a).2.1 + 1) s0 _ bv (by omega) q2 (by rw [List.length_append, List.length_append, bl_len]; omega)
      · rw [if_neg g1, if_neg g1]
        -- OR, if it waits
        have sO : ∃ Q, gX7_readEither_48 F0 F1 (gX7_readEither_7 F0 F1 (m + r + 1)) P s d (b2 ow) (nI i) 0 = gX7_readEither_63 F0 F1 (gX7_readEither_7 F0 F1 (m + r + 1)) Q s d 0 (nI i) ∧ CP M0 s t tx Q (F a).2.1 (s0 ++ (cs ++ (F a).2.2 ++ (if aw = true then [1] else []) ++ (if ow = true then [2] else [])).map cv) bv := by
          unfold gX7_readEither_48
          rw [if_pos rfl]
          cases ow with
          | false =>
            refine ⟨P, if_pos (by decide), ?_⟩
            rw [show (if false = true then [2] else []) = ([] : List Nat) from rfl, List.append_nil]
            exact p2
          | true =>
            have b1 : bn true = 1 := rfl
            obtain ⟨Q, q1, q2⟩ := c_add e p2 (by rw [lP]; omega) (x := 3) (y := 0) (c := cv 2) (by decide)
            refine ⟨Q, by rw [if_neg (by decide), m1P, ck_t, q1, bd_s], ?_⟩
            rw [show (if true = true then [2] else []) = [2] from rfl, List.map_append, ← List.append_assoc]
            exact q2
        obtain ⟨Q, q1, q2⟩ := sO
        have m1Q := (CE_M e q2.1).1
        have h7Q := q2.2.2.2.2.2.2.1
        rw [q1]
        unfold gX7_readEither_63
        rw [m1Q, ck_t, h7Q]
        by_cases g2 : nx t tx (F a).2.1 = 124
        · rw [if_pos g2, if_pos g2]
          have hl1 := nx_lt' g2 (by decide)
          obtain ⟨U, u1, u2⟩ := c_goTo e q2 hl1
          unfold gX7_readEither_77 gX7_readEither_84
          rw [if_neg n10, m1Q, ck_t, u1, bd_s, nI_1]
          have b1 : bn true = 1 := rfl
          have b0 : bn false = 0 := rfl
          exact ih m (i + 1) false true U ((F a).2.1 + 1) s0 _ bv (by omega) u2 (by rw [List.length_append, List.length_append, List.length_append, bl_len, bl_len]; omega)
        · rw [if_neg g2, if_neg g2]
          unfold gX7_readEither_77
          rw [if_pos rfl]
          exact ⟨Q, rfl, q2⟩
    · rw [if_neg g, b2_f g, if_pos rfl]
      refine ⟨N, rfl, ?_⟩
      show CP M0 s t tx N (F a).2.1 (s0 ++ (cs ++ (F a).2.2).map cv) bv
      rw [List.map_append, ← List.append_assoc]
      exact n2
theorem c_E (e : CE M0 s t tx) {d : Int32} {n k : Nat} (hF : SF M0 s t tx (rgA n 1) d (pF t tx k)) : SF M0 s t tx (rgA (n + 1) 0) d (pE t tx k) := by
  have ht := e.2.2.2.2.2.2.2.2.2.1
  intro M a ss bv h hl
  obtain ⟨m, hm⟩ := FUs 100 (by decide)
  obtain ⟨N, n1, n2⟩ := c_L e (F0 := rgA n 0) hF (pF_rd ht k) 100 m 0 false false M a ss [] bv rfl (by rw [List.map_nil, List.append_nil]; exact h) (by show ss.length + 0 + 0 + 0 ≤ a; omega)
  rw [← hm] at n1
  exact ⟨N, n1, n2⟩
theorem d_s {k : Nat} (h : k + 1 ≤ 4) : nI (4 - (k + 1)) + 1 = nI (4 - k) := by
  rw [nI_1]
  congr 1
  omega
theorem c_F (e : CE M0 s t tx) : ∀ (k m : Nat), k ≤ 4 → SF M0 s t tx (rgA (m + 2 * k + 1) 1) (nI (4 - k)) (pF t tx k) := by
  have ht := e.2.2.2.2.2.2.2.2.2.1
  have ht1 := e.2.2.2.2.2.2.2.2.1
  intro k
  induction k with
  | zero =>
    intro m hk M a ss bv h hl
    have m1 := (CE_M e h.1).1
    have h7 := h.2.2.2.2.2.2.1
    rw [rgA_1]
    unfold bX7_readFactor pF
    rw [m1, ck_t, h7]
    have same : CP M0 s t tx M a (ss ++ ([] : List Nat).map cv) bv := by
      rw [List.map_nil, List.append_nil]
      exact h
    by_cases g : nx t tx a = 33
    · rw [if_pos g, if_pos g]
      exact ⟨M, rfl, same⟩
    · rw [if_neg g, if_neg g]
      by_cases g2 : nx t tx a = 40
      · rw [if_pos g2, if_pos g2]
        exact ⟨M, rfl, same⟩
      · rw [if_neg g2, if_neg g2]
        obtain ⟨N, n1, n2⟩ := c_test e h hl
        refine ⟨N, ?_, n2⟩
        rw [n1, bd_s]
        cases (pTest t tx a).1 <;> rfl
  | succ k ih =>
    intro m hk M a ss bv h hl
    have m1 := (CE_M e h.1).1
    have h7 := h.2.2.2.2.2.2.1
    have hF := ih (m + 1) (by omega)
    have hE := c_E e (ih m (by omega))
    rw [show m + 1 + 2 * k + 1 = m + 2 * k + 2 by omega] at hF
    rw [show m + 2 * k + 1 + 1 = m + 2 * k + 2 by omega] at hE
    rw [show m + 2 * (k + 1) + 1 = (m + 2 * k + 2) + 1 by omega, rgA_1]
    unfold bX7_readFactor pF
    rw [m1, ck_t, h7]
    have d4 : nI (4 - (k + 1)) < 4 := by
      rw [show (4 : Int32) = nI 4 from rfl, ltL (by omega) (by omega)]
      omega
    by_cases g : nx t tx a = 33
    · rw [if_pos g, if_pos g]
      have hl1 := nx_lt' g (by decide)
      obtain ⟨N, n1, n2⟩ := c_goTo e h hl1
      have m1N := (CE_M e n2.1).1
      obtain ⟨P, p1, p2⟩ := hF N (a + 1) ss bv n2 (by omega)
      have m1P := (CE_M e p2.1).1
      obtain ⟨f1, f2, f3, f4, f5⟩ := pF_rd ht k (a + 1) (by omega)
      unfold gX7_readFactor_23 gX7_readFactor_44
      rw [if_pos d4, m1, ck_t, h7, if_pos g, ck_t, n1, bd_s, if_neg n10, m1N, ck_t, d_s hk, p1, bd_s]
      by_cases g1 : (pF t tx k (a + 1)).1 = true
      · have := f5 g1
        obtain ⟨Q, q1, q2⟩ := c_add e p2 (by rw [List.length_append, List.length_map]; omega) (x := 1) (y := 0) (c := cv 0) (by decide)
        rw [if_pos g1, b2_t g1, if_neg n10, m1P, ck_t, q1, bd_s]
        refine ⟨Q, rfl, ?_⟩
        show CP M0 s t tx Q (pF t tx k (a + 1)).2.1 (ss ++ ((pF t tx k (a + 1)).2.2 ++ [0]).map cv) bv
        rw [List.map_append, ← List.append_assoc]
        exact q2
      · rw [if_neg g1, b2_f g1, if_pos rfl]
        exact ⟨P, rfl, p2⟩
    · rw [if_neg g, if_neg g]
      by_cases g2 : nx t tx a = 40
      · rw [if_pos g2, if_pos g2]
        have hl1 := nx_lt' g2 (by decide)
        obtain ⟨N, n1, n2⟩ := c_goTo e h hl1
        have m1N := (CE_M e n2.1).1
        obtain ⟨P, p1, p2⟩ := hE N (a + 1) ss bv n2 (by omega)
        have m1P := (CE_M e p2.1).1
        unfold gX7_readFactor_23 gX7_readFactor_44
        rw [if_pos d4, m1, ck_t, h7, if_neg g, ck_t, n1, bd_s, if_pos rfl, m1N, ck_t, d_s hk, p1, bd_s]
        show ∃ N, (if b2 (pL t tx (pF t tx k) 100 false false (a + 1) []).1 = 0 then _ else _) = _ ∧ _
        by_cases g3 : (pL t tx (pF t tx k) 100 false false (a + 1) []).1 = true
        · obtain ⟨Q, q1, q2⟩ := c_word e (j := 7) (by decide) p2
          have e7 : xByt.getD 7 [] = [41] := rfl
          rw [e7] at q1 q2
          rw [b2_t g3, if_neg n10, if_pos g3, m1P, ck_t, q1, bd_s]
          have pw : pWord t tx [41] (pE t tx k (a + 1)).2.1 = if nx t tx (pL t tx (pF t tx k) 100 false false (a + 1) []).2.1 = 41 then (true, (pL t tx (pF t tx k) 100 false false (a + 1) []).2.1 + 1) else (false, (pL t tx (pF t tx k) 100 false false (a + 1) []).2.1) := rfl
          rw [pw] at q2 ⊢
          by_cases g4 : nx t tx (pL t tx (pF t tx k) 100 false false (a + 1) []).2.1 = 41
          · rw [if_pos g4] at q2 ⊢
            rw [if_pos g4]
            exact ⟨Q, rfl, q2⟩
          · rw [if_neg g4] at q2 ⊢
            rw [if_neg g4]
            exact ⟨Q, rfl, q2⟩
        · rw [b2_f g3, if_pos rfl, if_neg g3]
          exact ⟨P, by rw [b2_f g3], p2⟩
      · rw [if_neg g2, if_neg g2]
        obtain ⟨N, n1, n2⟩ := c_test e h hl
        refine ⟨N, ?_, n2⟩
        rw [n1, bd_s]
        cases (pTest t tx a).1 <;> rfl
theorem c_E4 (e : CE M0 s t tx) : SF M0 s t tx (rgA 24 0) 0 (pE t tx 4) := c_E e (n := 23) (c_F e 4 14 (Nat.le_refl _))
end CREAD2
/-! ===== clauses and statutes, in plain words ===== -/
abbrev Cl : Type := Nat × Nat × List Nat
def pBody (t : Nat) (tx : Nat → Nat) (w a : Nat) : Bool × Nat × Cl :=
  if (pNum t tx a).1 = true then (if (pWord t tx [32] (pNum t tx a).2.1).1 = true then ((pE t tx 4 (pWord t tx [32] (pNum t tx a).2.1).2).1, (pE t tx 4 (pWord t tx [32] (pNum t tx a).2.1).2).2.1, (w, (pNum t tx a).2.2, (pE t tx 4 (pWord t tx [32] (pNum t tx a).2.1).2).2.2)) else (false, (pWord t tx [32] (pNum t tx a).2.1).2, (0, 0, []))) else (false, (pNum t tx a).2.1, (0, 0, []))
def pBald (t : Nat) (tx : Nat → Nat) (a : Nat) : Bool × Nat × Cl := ((pNum t tx a).1, (pNum t tx a).2.1, (2, (pNum t tx a).2.2, []))
def pClause (t : Nat) (tx : Nat → Nat) (a : Nat) : Bool × Nat × Cl :=
  if nx t tx a = 100 then (if (pWord t tx [100, 114, 97, 119, 32] a).1 = true then pBody t tx 0 (pWord t tx [100, 114, 97, 119, 32] a).2 else (false, (pWord t tx [100, 114, 97, 119, 32] a).2, (0, 0, [])))
  else if (pWord t tx [98, 97] a).1 = true then
    (if nx t tx (pWord t tx [98, 97] a).2 = 114 then (if (pWord t tx [114, 32] (pWord t tx [98, 97] a).2).1 = true then pBody t tx 1 (pWord t tx [114, 32] (pWord t tx [98, 97] a).2).2 else (false, (pWord t tx [114, 32] (pWord t tx [98, 97] a).2).2, (0, 0, [])))
     else (if (pWord t tx [108, 100, 32] (pWord t tx [98, 97] a).2).1 = true then pBald t tx (pWord t tx [108, 100, 32] (pWord t tx [98, 97] a).2).2 else (false, (pWord t tx [108, 100, 32] (pWord t tx [98, 97] a).2).2, (0, 0, []))))
  else (false, (pWord t tx [98, 97] a).2, (0, 0, []))
def pFrom (t : Nat) (tx : Nat → Nat) : Nat → Nat → List Cl → Bool × Nat × List Cl
  | 0, a, cl => (false, a, cl)
  | n + 1, a, cl =>
    if (pClause t tx a).1 = true then
      (if nx t tx (pClause t tx a).2.1 = -1 then (true, (pClause t tx a).2.1, cl ++ [(pClause t tx a).2.2])
       else if nx t tx (pClause t tx a).2.1 = 59 then (if n = 0 then (false, (pClause t tx a).2.1, cl) else pFrom t tx n ((pClause t tx a).2.1 + 1) (cl ++ [(pClause t tx a).2.2]))
       else (false, (pClause t tx a).2.1, cl))
    else (false, (pClause t tx a).2.1, cl)
/-- a clause's steps in the class, what it makes of the bald number -/
def clS (c : Cl) : List Nat := if c.1 = 2 then [] else c.2.2.map cv ++ [(if c.1 = 0 then 16384 else 20480) + c.2.1]
def clB (bv : Int32) (c : Cl) : Int32 := if c.1 = 2 then nI c.2.1 else bv
/-- a good clause -/
def ClOk (c : Cl) : Prop := c.1 ≤ 2 ∧ c.2.1 ≤ 99 ∧ (∀ x, x ∈ c.2.2 → x < 1803) ∧ (c.1 < 2 → Pf 11 c.2.2) ∧ (c.1 = 2 → c.2.2 = [])
section PCL
variable {t : Nat} {tx : Nat → Nat}
theorem w_ne : (∀ c, c ∈ ([100, 114, 97, 119, 32] : List Int32) → ¬ c = -1) ∧ (∀ c, c ∈ ([98, 97] : List Int32) → ¬ c = -1) ∧ (∀ c, c ∈ ([114, 32] : List Int32) → ¬ c = -1) ∧ (∀ c, c ∈ ([108, 100, 32] : List Int32) → ¬ c = -1) ∧ (∀ c, c ∈ ([32] : List Int32) → ¬ c = -1) := by decide
theorem pBody_in (ht : ∀ i, i < t → tx i < 128) {w a : Nat} (hw : w < 2) (h : a ≤ t) : a ≤ (pBody t tx w a).2.1 ∧ (pBody t tx w a).2.1 ≤ t ∧ ((pBody t tx w a).1 = true → ClOk (pBody t tx w a).2.2 ∧ (pBody t tx w a).2.2.1 = w ∧ (pBody t tx w a).2.2.2.2.length + 1 + a ≤ (pBody t tx w a).2.1) := by
  obtain ⟨n1, n2, n3, n4⟩ := pNum_in ht h
  obtain ⟨w1, w2, w3⟩ := pWord_in (tx := tx) [32] (pNum t tx a).2.1 w_ne.2.2.2.2 n2
  obtain ⟨f1, f2, f3, f4, f5⟩ := pE_rd (tx := tx) ht 4 (pWord t tx [32] (pNum t tx a).2.1).2 w2
  unfold pBody
  by_cases g : (pNum t tx a).1 = true
  · rw [if_pos g]
    have := n4 g
    by_cases g1 : (pWord t tx [32] (pNum t tx a).2.1).1 = true
    · rw [if_pos g1]
      have e1 : (pWord t tx [32] (pNum t tx a).2.1).2 = (pNum t tx a).2.1 + 1 := w3 g1
      refine ⟨by show a ≤ (pE t tx 4 (pWord t tx [32] (pNum t tx a).2.1).2).2.1; omega, f2, fun q => ⟨⟨by show w ≤ 2; omega, n3, f4, fun _ => pE_pf q, fun q2 => by have : w = 2 := q2; omega⟩, rfl, ?_⟩⟩
      show (pE t tx 4 (pWord t tx [32] (pNum t tx a).2.1).2).2.2.length + 1 + a ≤ (pE t tx 4 (pWord t tx [32] (pNum t tx a).2.1).2).2.1
      omega
    · rw [if_neg g1]
      exact ⟨by show a ≤ (pWord t tx [32] (pNum t tx a).2.1).2; omega, w2, fun q => by cases q⟩
  · rw [if_neg g]
    exact ⟨n1, n2, fun q => by cases q⟩
theorem pClause_in (ht : ∀ i, i < t → tx i < 128) {a : Nat} (h : a ≤ t) : a ≤ (pClause t tx a).2.1 ∧ (pClause t tx a).2.1 ≤ t ∧ ((pClause t tx a).1 = true → ClOk (pClause t tx a).2.2 ∧ a < (pClause t tx a).2.1 ∧ (clS (pClause t tx a).2.2).length + a ≤ (pClause t tx a).2.1 ∧ (pClause t tx a).2.2.2.2.length + a ≤ (pClause t tx a).2.1) := by
  obtain ⟨v1, v2, v3⟩ := pWord_in (tx := tx) [100, 114, 97, 119, 32] a w_ne.1 h
  obtain ⟨u1, u2, u3⟩ := pWord_in (tx := tx) [98, 97] a w_ne.2.1 h
  obtain ⟨x1, x2, x3⟩ := pWord_in (tx := tx) [114, 32] (pWord t tx [98, 97] a).2 w_ne.2.2.1 u2
  obtain ⟨y1, y2, y3⟩ := pWord_in (tx := tx) [108, 100, 32] (pWord t tx [98, 97] a).2 w_ne.2.2.2.1 u2
  have body : ∀ w b, w < 2 → b ≤ t → a ≤ b → a ≤ (pBody t tx w b).2.1 ∧ (pBody t tx w b).2.1 ≤ t ∧ ((pBody t tx w b).1 = true → ClOk (pBody t tx w b).2.2 ∧ a < (pBody t tx w b).2.1 ∧ (clS (pBody t tx w b).2.2).length + a ≤ (pBody t tx w b).2.1 ∧ (pBody t tx w b).2.2.2.2.length + a ≤ (pBody t tx w b).2.1) := by
    intro w b hw hb hab
    obtain ⟨p1, p2, p3⟩ := pBody_in (tx := tx) ht hw hb
    refine ⟨by omega, p2, fun q => ?_⟩
    obtain ⟨q1, q2, q3⟩ := p3 q
    refine ⟨q1, by omega, ?_, by omega⟩
    unfold clS
    rw [if_neg (by omega), List.length_append, List.length_map]
    show (pBody t tx w b).2.2.2.2.length + 1 + a ≤ _
    omega
  unfold pClause
  by_cases g : nx t tx a = 100
  · rw [if_pos g]
    by_cases g1 : (pWord t tx [100, 114, 97, 119, 32] a).1 = true
    · rw [if_pos g1]
      exact body 0 _ (by omega) v2 v1
    · rw [if_neg g1]
      exact ⟨v1, v2, fun q => by cases q⟩
  · rw [if_neg g]
    by_cases g1 : (pWord t tx [98, 97] a).1 = true
    · rw [if_pos g1]
      by_cases g2 : nx t tx (pWord t tx [98, 97] a).2 = 114
      · rw [if_pos g2]
        by_cases g3 : (pWord t tx [114, 32] (pWord t tx [98, 97] a).2).1 = true
        · rw [if_pos g3]
          exact body 1 _ (by omega) x2 (by omega)
        · rw [if_neg g3]
          exact ⟨by show a ≤ (pWord t tx [114, 32] (pWord t tx [98, 97] a).2).2; omega, x2, fun q => by cases q⟩
      · rw [if_neg g2]
        by_cases g3 : (pWord t tx [108, 100, 32] (pWord t tx [98, 97] a).2).1 = true
        · rw [if_pos g3]
          obtain ⟨n1, n2, n3, n4⟩ := pNum_in (tx := tx) ht y2
          unfold pBald
          refine ⟨by show a ≤ (pNum t tx (pWord t tx [108, 100, 32] (pWord t tx [98, 97] a).2).2).2.1; omega, n2, fun q => ?_⟩
          have q' : (pNum t tx (pWord t tx [108, 100, 32] (pWord t tx [98, 97] a).2).2).1 = true := q
          have := n4 q'
          exact ⟨⟨by show 2 ≤ 2; omega, n3, fun x hx => (by cases hx), fun h2 => by have : 2 < 2 := h2; omega, fun _ => rfl⟩, by show a < (pNum t tx (pWord t tx [108, 100, 32] (pWord t tx [98, 97] a).2).2).2.1; omega, by show 0 + a ≤ (pNum t tx (pWord t tx [108, 100, 32] (pWord t tx [98, 97] a).2).2).2.1; omega, by show 0 + a ≤ (pNum t tx (pWord t tx [108, 100, 32] (pWord t tx [98, 97] a).2).2).2.1; omega⟩
        · rw [if_neg g3]
          exact ⟨by show a ≤ (pWord t tx [108, 100, 32] (pWord t tx [98, 97] a).2).2; omega, y2, fun q => by cases q⟩
    · rw [if_neg g1]
      exact ⟨u1, u2, fun q => by cases q⟩
end PCL
/-! ===== the class reads them ===== -/
section CREAD3
variable {M0 : Mem} {s t : Nat} {tx : Nat → Nat}
theorem cv_d : ∀ n, n ≤ 99 → ((4 : Int32) <<< ((12 : Int32) &&& 31)) ||| nI n = nI (16384 + n) ∧ ((5 : Int32) <<< ((12 : Int32) &&& 31)) ||| nI n = nI (20480 + n) := by decide +kernel
/-- what reading a clause leaves -/
def CC (M0 : Mem) (s t : Nat) (tx : Nat → Nat) (N : Mem) (ss : List Nat) (bv : Int32) (r : Bool × Nat × Cl) : Prop := ∃ ss' bv', CP M0 s t tx N r.2.1 ss' bv' ∧ (r.1 = true → ss' = ss ++ clS r.2.2 ∧ bv' = clB bv r.2.2)
theorem c_body (e : CE M0 s t tx) {M : Mem} {a w : Nat} {x : Int32} {ss : List Nat} {bv : Int32} (hw : (w = 0 ∧ x = 4) ∨ (w = 1 ∧ x = 5)) (h : CP M0 s t tx M a ss bv) (hl : ss.length ≤ a) : ∃ N, gX7_readClause_60 M s x = some (b2 (pBody t tx w a).1, N) ∧ CC M0 s t tx N ss bv (pBody t tx w a) := by
  have ht := e.2.2.2.2.2.2.2.2.2.1
  have ht1 := e.2.2.2.2.2.2.2.2.1
  have m1 := (CE_M e h.1).1
  obtain ⟨n1, n2, n3, n4⟩ := pNum_in (tx := tx) ht h.2.2.2.1
  obtain ⟨w1, w2, w3⟩ := pWord_in (tx := tx) [32] (pNum t tx a).2.1 w_ne.2.2.2.2 n2
  obtain ⟨f1, f2, f3, f4, f5⟩ := pE_rd (tx := tx) ht 4 (pWord t tx [32] (pNum t tx a).2.1).2 w2
  obtain ⟨A, a1, a2⟩ := c_num e h
  have m1A := (CE_M e a2.1).1
  unfold gX7_readClause_60 pBody
  rw [m1, ck_t, a1, bd_s]
  by_cases g : (pNum t tx a).1 = true
  · rw [if_pos g, if_pos g, if_neg (m1_ne (by omega))]
    obtain ⟨B, b1, b2'⟩ := c_word e (j := 4) (by decide) a2
    have e4 : xByt.getD 4 [] = [32] := rfl
    rw [e4] at b1 b2'
    have m1B := (CE_M e b2'.1).1
    rw [m1A, ck_t, b1, bd_s]
    by_cases g1 : (pWord t tx [32] (pNum t tx a).2.1).1 = true
    · rw [if_pos g1, b2_t g1, if_neg n10]
      have e1 : (pWord t tx [32] (pNum t tx a).2.1).2 = (pNum t tx a).2.1 + 1 := w3 g1
      obtain ⟨C, c1, c2⟩ := c_E4 e B _ ss bv b2' (by omega)
      have c1' : fX7_readEither B s 0 = some (b2 (pE t tx 4 (pWord t tx [32] (pNum t tx a).2.1).2).1, C) := c1
      have m1C := (CE_M e c2.1).1
      rw [m1B, ck_t, c1', bd_s]
      by_cases g2 : (pE t tx 4 (pWord t tx [32] (pNum t tx a).2.1).2).1 = true
      · have := n4 g
        have hc : (x <<< ((12 : Int32) &&& 31)) ||| nI (pNum t tx a).2.2 = nI ((if w = 0 then 16384 else 20480) + (pNum t tx a).2.2) := by
          rcases hw with ⟨rfl, rfl⟩ | ⟨rfl, rfl⟩
          · exact (cv_d _ n3).1
          · exact (cv_d _ n3).2
        obtain ⟨D, d1, d2⟩ := c_add e c2 (by rw [List.length_append, List.length_map]; omega) hc
        rw [b2_t g2, if_neg n10, m1C, ck_t, d1, bd_s]
        refine ⟨D, rfl, _, bv, d2, fun _ => ⟨?_, ?_⟩⟩
        · show _ = ss ++ (if w = 2 then [] else (pE t tx 4 (pWord t tx [32] (pNum t tx a).2.1).2).2.2.map cv ++ [(if w = 0 then 16384 else 20480) + (pNum t tx a).2.2])
          have w2 : ¬ w = 2 := by omega
          rw [if_neg w2, List.append_assoc]
        · show bv = if w = 2 then _ else bv
          rw [if_neg (by omega)]
      · rw [b2_f g2, if_pos rfl]
        exact ⟨C, rfl, _, bv, c2, fun q => absurd q g2⟩
    · rw [if_neg g1, b2_f g1, if_pos rfl]
      exact ⟨B, rfl, _, bv, b2', fun q => by cases q⟩
  · rw [if_neg g, if_neg g, if_pos rfl]
    exact ⟨A, rfl, _, bv, a2, fun q => by cases q⟩
theorem CP_bald {M : Mem} {a : Nat} {ss : List Nat} {bv x : Int32} (h : CP M0 s t tx M a ss bv) : CP M0 s t tx (stI M s 2 x) a ss x := by
  obtain ⟨h1, h2, h3, h4, h5, h6, h7, h8, h9, h10⟩ := h
  refine ⟨h1, h2, fun b b1 b2 => ?_, h4, ?_, ?_, ?_, ?_, ?_, fun i hi => ?_⟩
  · rw [row_st b1]
    exact h3 b b1 b2
  · rw [mI_stI, if_neg (by omega)]
    exact h5
  · rw [mI_stI, if_neg (by omega)]
    exact h6
  · rw [mI_stI, if_neg (by omega)]
    exact h7
  · rw [mI_stI, if_pos ⟨rfl, rfl⟩]
  · rw [mI_stI, if_neg (by omega)]
    exact h9
  · obtain ⟨c, c1, c2⟩ := h10 i hi
    refine ⟨c, c1, ?_⟩
    rw [mI_stI, if_neg (by omega)]
    exact c2
theorem c_clause (e : CE M0 s t tx) {M : Mem} {a : Nat} {ss : List Nat} {bv : Int32} (h : CP M0 s t tx M a ss bv) (hl : ss.length ≤ a) : ∃ N, fX7_readClause M s = some (b2 (pClause t tx a).1, N) ∧ CC M0 s t tx N ss bv (pClause t tx a) := by
  have ht := e.2.2.2.2.2.2.2.2.2.1
  have m1 := (CE_M e h.1).1
  have h7 := h.2.2.2.2.2.2.1
  have ha := h.2.2.2.1
  obtain ⟨v1, v2, v3⟩ := pWord_in (tx := tx) [100, 114, 97, 119, 32] a w_ne.1 ha
  obtain ⟨u1, u2, u3⟩ := pWord_in (tx := tx) [98, 97] a w_ne.2.1 ha
  obtain ⟨x1, x2, x3⟩ := pWord_in (tx := tx) [114, 32] (pWord t tx [98, 97] a).2 w_ne.2.2.1 u2
  unfold fX7_readClause pClause
  rw [m1, ck_t, h7]
  by_cases g : nx t tx a = 100
  · rw [if_pos g, if_pos g]
    obtain ⟨A, a1, a2⟩ := c_word e (j := 0) (by decide) h
    have e0 : xByt.getD 0 [] = [100, 114, 97, 119, 32] := rfl
    rw [e0] at a1 a2
    rw [a1, bd_s]
    by_cases g1 : (pWord t tx [100, 114, 97, 119, 32] a).1 = true
    · rw [if_pos g1, b2_t g1, if_neg n10]
      exact c_body e (Or.inl ⟨rfl, rfl⟩) a2 (by omega)
    · rw [if_neg g1, b2_f g1, if_pos rfl]
      exact ⟨A, rfl, _, bv, a2, fun q => by cases q⟩
  · rw [if_neg g, if_neg g]
    obtain ⟨A, a1, a2⟩ := c_word e (j := 1) (by decide) h
    have e1 : xByt.getD 1 [] = [98, 97] := rfl
    rw [e1] at a1 a2
    have m1A := (CE_M e a2.1).1
    have h7A := a2.2.2.2.2.2.2.1
    rw [a1, bd_s]
    by_cases g1 : (pWord t tx [98, 97] a).1 = true
    · rw [if_pos g1, b2_t g1, if_neg n10, m1A, ck_t, h7A]
      by_cases g2 : nx t tx (pWord t tx [98, 97] a).2 = 114
      · rw [if_pos g2, if_pos g2]
        obtain ⟨B, b1, b2'⟩ := c_word e (j := 3) (by decide) a2
        have e3 : xByt.getD 3 [] = [114, 32] := rfl
        rw [e3] at b1 b2'
        rw [b1, bd_s]
        by_cases g3 : (pWord t tx [114, 32] (pWord t tx [98, 97] a).2).1 = true
        · rw [if_pos g3, b2_t g3, if_neg n10]
          exact c_body e (Or.inr ⟨rfl, rfl⟩) b2' (by omega)
        · rw [if_neg g3, b2_f g3, if_pos rfl]
          exact ⟨B, rfl, _, bv, b2', fun q => by cases q⟩
      · rw [if_neg g2, if_neg g2]
        obtain ⟨B, b1, b2'⟩ := c_word e (j := 2) (by decide) a2
        have e2 : xByt.getD 2 [] = [108, 100, 32] := rfl
        rw [e2] at b1 b2'
        have m1B := (CE_M e b2'.1).1
        unfold fX7_readBald
        rw [m1A, ck_t, b1, bd_s]
        by_cases g3 : (pWord t tx [108, 100, 32] (pWord t tx [98, 97] a).2).1 = true
        · obtain ⟨C, c1, c2⟩ := c_num e b2'
          have m1C := (CE_M e c2.1).1
          obtain ⟨n1, n2, n3, n4⟩ := pNum_in (tx := tx) ht b2'.2.2.2.1
          rw [if_pos g3, b2_t g3, if_neg n10, m1B, ck_t, c1, bd_s]
          unfold pBald
          by_cases g4 : (pNum t tx (pWord t tx [108, 100, 32] (pWord t tx [98, 97] a).2).2).1 = true
          · rw [if_pos g4, if_neg (m1_ne (by omega)), m1C, ck_t, bd_s]
            refine ⟨stI C s 2 (nI (pNum t tx (pWord t tx [108, 100, 32] (pWord t tx [98, 97] a).2).2).2.2), ?_, ss, _, CP_bald c2, fun _ => ⟨?_, rfl⟩⟩
            · show _ = some (b2 (pNum t tx (pWord t tx [108, 100, 32] (pWord t tx [98, 97] a).2).2).1, _)
              rw [g4]
              rfl
            · show ss = ss ++ []
              rw [List.append_nil]
          · rw [if_neg g4, if_pos rfl, bd_s]
            refine ⟨C, ?_, ss, bv, c2, fun q => absurd q g4⟩
            show _ = some (b2 (pNum t tx (pWord t tx [108, 100, 32] (pWord t tx [98, 97] a).2).2).1, _)
            rw [b2_f g4]
            rfl
        · rw [if_neg g3, b2_f g3, if_pos rfl, bd_s]
          exact ⟨B, rfl, _, bv, b2', fun q => by cases q⟩
    · rw [if_neg g1, b2_f g1, if_pos rfl]
      exact ⟨A, rfl, _, bv, a2, fun q => by cases q⟩
/-- all clauses' steps, the bald number behind all -/
def clsS : List Cl → List Nat
  | [] => []
  | c :: r => clS c ++ clsS r
def clsB (bv : Int32) : List Cl → Int32
  | [] => bv
  | c :: r => clsB (clB bv c) r
theorem clsS_a : ∀ (l : List Cl) (c : Cl), clsS (l ++ [c]) = clsS l ++ clS c := by
  intro l
  induction l with
  | nil => intro c; show clS c ++ [] = [] ++ clS c; rw [List.append_nil]; rfl
  | cons d l ih => intro c; show clS d ++ clsS (l ++ [c]) = clS d ++ clsS l ++ clS c; rw [ih, List.append_assoc]
theorem clsB_a : ∀ (l : List Cl) (bv : Int32) (c : Cl), clsB bv (l ++ [c]) = clB (clsB bv l) c := by
  intro l
  induction l with
  | nil => intro bv c; rfl
  | cons d l ih => intro bv c; exact ih (clB bv d) c
theorem c_fromL (e : CE M0 s t tx) : ∀ (n m a : Nat) (M : Mem) (cl : List Cl), n ≤ 10 → CP M0 s t tx M a (clsS cl) (clsB 95 cl) → (clsS cl).length ≤ a → ∃ N, gX7_readFrom_28 (m + n + 1) M s (nI (11 - n)) = some (b2 (pFrom t tx n a cl).1, N) ∧ ∃ ss bv, CP M0 s t tx N (pFrom t tx n a cl).2.1 ss bv ∧ ((pFrom t tx n a cl).1 = true → ss = clsS (pFrom t tx n a cl).2.2 ∧ bv = clsB 95 (pFrom t tx n a cl).2.2) := by
  have ht := e.2.2.2.2.2.2.2.2.2.1
  intro n
  induction n with
  | zero =>
    intro m a M cl _ h hl
    refine ⟨M, ?_, _, _, h, fun q => by cases q⟩
    rw [gX7_readFrom_28_s, if_pos (by decide)]
    rfl
  | succ n ih =>
    intro m a M cl hn h hl
    have m1 := (CE_M e h.1).1
    obtain ⟨A, a1, ss, bv, a2, a3⟩ := c_clause e h hl
    have m1A := (CE_M e a2.1).1
    have h7A := a2.2.2.2.2.2.2.1
    obtain ⟨p1, p2, p3⟩ := pClause_in (tx := tx) ht h.2.2.2.1
    rw [show m + (n + 1) + 1 = (m + n + 1) + 1 by omega, gX7_readFrom_28_s, if_neg (by rw [show (10 : Int32) = nI 10 from rfl, ltL (by omega) (by omega)]; omega), m1, ck_t, a1, bd_s]
    unfold pFrom
    by_cases g : (pClause t tx a).1 = true
    · obtain ⟨q1, q2⟩ := a3 g
      obtain ⟨o1, o2, o3, o4⟩ := p3 g
      rw [if_pos g, b2_t g, if_neg n10, m1A, ck_t, h7A]
      by_cases g1 : nx t tx (pClause t tx a).2.1 = -1
      · rw [if_pos g1, if_pos g1]
        refine ⟨A, rfl, ss, bv, a2, fun _ => ⟨?_, ?_⟩⟩
        · show ss = clsS (cl ++ [(pClause t tx a).2.2])
          rw [clsS_a]
          exact q1
        · show bv = clsB 95 (cl ++ [(pClause t tx a).2.2])
          rw [clsB_a]
          exact q2
      · rw [if_neg g1, if_neg g1]
        by_cases g2 : nx t tx (pClause t tx a).2.1 = 59
        · rw [if_pos g2, if_pos g2]
          by_cases g3 : n = 0
          · subst g3
            rw [if_pos (by decide), if_pos rfl]
            exact ⟨A, rfl, ss, bv, a2, fun q => by cases q⟩
          · rw [if_neg (by rw [show (10 : Int32) = nI 10 from rfl, eqL (by omega) (by omega)]; omega), if_neg g3]
            obtain ⟨B, b1, b2'⟩ := c_goTo e a2 (nx_lt g1)
            rw [b1, bd_s, nI_1, show 11 - (n + 1) + 1 = 11 - n by omega]
            refine ih m _ B _ (by omega) ?_ ?_
            · rw [clsS_a, clsB_a, ← q1, ← q2]
              exact b2'
            · rw [clsS_a, List.length_append]
              omega
        · rw [if_neg g2, if_neg g2]
          exact ⟨A, rfl, ss, bv, a2, fun q => by cases q⟩
    · rw [if_neg g, b2_f g, if_pos rfl]
      exact ⟨A, rfl, ss, bv, a2, fun q => by cases q⟩
end CREAD3
