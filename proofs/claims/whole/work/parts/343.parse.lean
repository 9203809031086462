/-! ===== texts, read in plain words ===== -/
def nx (t : Nat) (tx : Nat → Nat) (a : Nat) : Int32 := if a < t then nI (tx a) else -1
def pWord (t : Nat) (tx : Nat → Nat) : List Int32 → Nat → Bool × Nat
  | [], a => (true, a)
  | c :: cs, a => if nx t tx a = c then pWord t tx cs (a + 1) else (false, a)
def dg (x : Int32) : Bool := decide (48 ≤ x) && decide (x ≤ 57)
def pNum (t : Nat) (tx : Nat → Nat) (a : Nat) : Bool × Nat × Nat := if dg (nx t tx a) = true then (if dg (nx t tx (a + 1)) = true then (true, a + 2, 10 * (tx a - 48) + (tx (a + 1) - 48)) else (true, a + 1, tx a - 48)) else (false, a, 0)
/-- which of the letters (6: none), which of the signs (3: none) -/
def lix (x : Int32) : Nat := if x = 112 then 0 else if x = 107 then 1 else if x = 118 then 2 else if x = 99 then 3 else if x = 119 then 4 else if x = 104 then 5 else 6
def six (x : Int32) : Nat := if x = 60 then 0 else if x = 61 then 1 else if x = 62 then 2 else 3
abbrev Res : Type := Bool × Nat × List Nat
def pTest (t : Nat) (tx : Nat → Nat) (a : Nat) : Res := if lix (nx t tx a) = 6 then (false, a, []) else if six (nx t tx (a + 1)) = 3 then (false, a + 1, []) else if (pNum t tx (a + 2)).1 = true then (true, (pNum t tx (a + 2)).2.1, [3 + 300 * lix (nx t tx a) + 100 * six (nx t tx (a + 1)) + (pNum t tx (a + 2)).2.2]) else (false, (pNum t tx (a + 2)).2.1, [])
def pL (t : Nat) (tx : Nat → Nat) (F : Nat → Res) : Nat → Bool → Bool → Nat → List Nat → Res
  | 0, _, _, a, cs => (false, a, cs)
  | n + 1, aw, ow, a, cs =>
    if (F a).1 = true then
      (if nx t tx (F a).2.1 = 38 then pL t tx F n true ow ((F a).2.1 + 1) (cs ++ (F a).2.2 ++ (if aw = true then [1] else []))
       else if nx t tx (F a).2.1 = 124 then pL t tx F n false true ((F a).2.1 + 1) (cs ++ (F a).2.2 ++ (if aw = true then [1] else []) ++ (if ow = true then [2] else []))
       else (true, (F a).2.1, cs ++ (F a).2.2 ++ (if aw = true then [1] else []) ++ (if ow = true then [2] else [])))
    else (false, (F a).2.1, cs ++ (F a).2.2)
def pF (t : Nat) (tx : Nat → Nat) : Nat → Nat → Res
  | 0, a => if nx t tx a = 33 then (false, a, []) else if nx t tx a = 40 then (false, a, []) else pTest t tx a
  | k + 1, a =>
    if nx t tx a = 33 then (if (pF t tx k (a + 1)).1 = true then (true, (pF t tx k (a + 1)).2.1, (pF t tx k (a + 1)).2.2 ++ [0]) else pF t tx k (a + 1))
    else if nx t tx a = 40 then (if (pL t tx (pF t tx k) 100 false false (a + 1) []).1 = true then (if nx t tx (pL t tx (pF t tx k) 100 false false (a + 1) []).2.1 = 41 then (true, (pL t tx (pF t tx k) 100 false false (a + 1) []).2.1 + 1, (pL t tx (pF t tx k) 100 false false (a + 1) []).2.2) else (false, (pL t tx (pF t tx k) 100 false false (a + 1) []).2.1, (pL t tx (pF t tx k) 100 false false (a + 1) []).2.2)) else pL t tx (pF t tx k) 100 false false (a + 1) [])
    else pTest t tx a
def pE (t : Nat) (tx : Nat → Nat) (k a : Nat) : Res := pL t tx (pF t tx k) 100 false false a []
theorem nx_lt {t : Nat} {tx : Nat → Nat} {a : Nat} (h : ¬ nx t tx a = -1) : a < t := by
  apply Classical.byContradiction
  intro g
  exact h (if_neg g)
theorem nx_lt' {t : Nat} {tx : Nat → Nat} {a : Nat} {x : Int32} (h : nx t tx a = x) (hx : ¬ x = -1) : a < t := nx_lt (fun e => hx (h.symm.trans e))
theorem dg_lt {t : Nat} {tx : Nat → Nat} {a : Nat} (h : dg (nx t tx a) = true) : a < t := by
  apply nx_lt
  intro e
  rw [e] at h
  exact absurd h (by decide)
theorem dg_n {t : Nat} {tx : Nat → Nat} (ht : ∀ i, i < t → tx i < 128) {a : Nat} (h : dg (nx t tx a) = true) : a < t ∧ nx t tx a = nI (tx a) ∧ 48 ≤ tx a ∧ tx a ≤ 57 := by
  have hl := dg_lt h
  have e : nx t tx a = nI (tx a) := if_pos hl
  refine ⟨hl, e, ?_⟩
  have := ht a hl
  rw [e] at h
  unfold dg at h
  rw [Bool.and_eq_true, decide_eq_true_eq, decide_eq_true_eq, show (48 : Int32) = nI 48 from rfl, show (57 : Int32) = nI 57 from rfl, leL (by omega) (by omega), leL (by omega) (by omega)] at h
  exact h
theorem lix_lt {t : Nat} {tx : Nat → Nat} {a : Nat} (h : ¬ lix (nx t tx a) = 6) : a < t := by
  apply nx_lt
  intro e
  rw [e] at h
  exact h (by decide)
theorem six_lt {t : Nat} {tx : Nat → Nat} {a : Nat} (h : ¬ six (nx t tx a) = 3) : a < t := by
  apply nx_lt
  intro e
  rw [e] at h
  exact h (by decide)
theorem lix_6 (x : Int32) : lix x ≤ 6 := by
  unfold lix
  repeat' split
  all_goals omega
theorem six_3 (x : Int32) : six x ≤ 3 := by
  unfold six
  repeat' split
  all_goals omega
/-! what a reader keeps to -/
section PARSE
variable {t : Nat} {tx : Nat → Nat}
theorem pWord_in : ∀ (w : List Int32) (a : Nat), (∀ c, c ∈ w → ¬ c = -1) → a ≤ t → a ≤ (pWord t tx w a).2 ∧ (pWord t tx w a).2 ≤ t ∧ ((pWord t tx w a).1 = true → (pWord t tx w a).2 = a + w.length) := by
  intro w
  induction w with
  | nil => intro a _ h; exact ⟨Nat.le_refl _, h, fun _ => rfl⟩
  | cons c w ih =>
    intro a hc h
    unfold pWord
    by_cases g : nx t tx a = c
    · rw [if_pos g]
      have hl := nx_lt' g (hc c List.mem_cons_self)
      obtain ⟨i1, i2, i3⟩ := ih (a + 1) (fun d hd => hc d (List.mem_cons_of_mem _ hd)) (by omega)
      refine ⟨by omega, i2, fun q => ?_⟩
      rw [i3 q, List.length_cons]
      omega
    · rw [if_neg g]
      exact ⟨Nat.le_refl _, h, fun q => by cases q⟩
theorem pNum_in (ht : ∀ i, i < t → tx i < 128) {a : Nat} (h : a ≤ t) : a ≤ (pNum t tx a).2.1 ∧ (pNum t tx a).2.1 ≤ t ∧ (pNum t tx a).2.2 ≤ 99 ∧ ((pNum t tx a).1 = true → a < (pNum t tx a).2.1) := by
  unfold pNum
  by_cases g : dg (nx t tx a) = true
  · obtain ⟨g1, -, g2, g3⟩ := dg_n ht g
    rw [if_pos g]
    by_cases g' : dg (nx t tx (a + 1)) = true
    · obtain ⟨g1', -, g2', g3'⟩ := dg_n ht g'
      rw [if_pos g']
      exact ⟨by show a ≤ a + 2; omega, by show a + 2 ≤ t; omega, by show 10 * (tx a - 48) + (tx (a + 1) - 48) ≤ 99; omega, fun _ => by show a < a + 2; omega⟩
    · rw [if_neg g']
      exact ⟨by show a ≤ a + 1; omega, by show a + 1 ≤ t; omega, by show tx a - 48 ≤ 99; omega, fun _ => by show a < a + 1; omega⟩
  · rw [if_neg g]
    exact ⟨Nat.le_refl _, h, by show 0 ≤ 99; omega, fun q => by cases q⟩
/-- one that reads: goes on, not beyond the end, with no more codes than bytes, all of them codes -/
def Rd (t : Nat) (F : Nat → Res) : Prop := ∀ a, a ≤ t → a ≤ (F a).2.1 ∧ (F a).2.1 ≤ t ∧ (F a).2.2.length + a ≤ (F a).2.1 ∧ (∀ c, c ∈ (F a).2.2 → c < 1803) ∧ ((F a).1 = true → a < (F a).2.1)
theorem pTest_rd (ht : ∀ i, i < t → tx i < 128) : Rd t (pTest t tx) := by
  intro a h
  unfold pTest
  by_cases g : lix (nx t tx a) = 6
  · rw [if_pos g]
    exact ⟨Nat.le_refl _, h, by show 0 + a ≤ a; omega, fun c hc => (by cases hc), fun q => by cases q⟩
  · rw [if_neg g]
    have g1 := lix_lt g
    have g6 := lix_6 (nx t tx a)
    by_cases k : six (nx t tx (a + 1)) = 3
    · rw [if_pos k]
      exact ⟨by show a ≤ a + 1; omega, by show a + 1 ≤ t; omega, by show 0 + a ≤ a + 1; omega, fun c hc => (by cases hc), fun q => by cases q⟩
    · rw [if_neg k]
      have k1 := six_lt k
      have k3 := six_3 (nx t tx (a + 1))
      obtain ⟨n1, n2, n3, n4⟩ := pNum_in ht (a := a + 2) (by omega)
      by_cases m : (pNum t tx (a + 2)).1 = true
      · rw [if_pos m]
        have := n4 m
        refine ⟨by show a ≤ (pNum t tx (a + 2)).2.1; omega, n2, by show 1 + a ≤ (pNum t tx (a + 2)).2.1; omega, fun c hc => ?_, fun _ => by show a < (pNum t tx (a + 2)).2.1; omega⟩
        rw [List.mem_singleton] at hc
        omega
      · rw [if_neg m]
        exact ⟨by show a ≤ (pNum t tx (a + 2)).2.1; omega, n2, by show 0 + a ≤ (pNum t tx (a + 2)).2.1; omega, fun c hc => (by cases hc), fun q => by cases q⟩
def bn (b : Bool) : Nat := if b = true then 1 else 0
theorem bl_len (b : Bool) (x : Nat) : (if b = true then [x] else []).length = bn b := by
  cases b <;> rfl
theorem bl_mem {b : Bool} {x c : Nat} (h : c ∈ (if b = true then [x] else [])) : c = x := by
  cases b
  · cases h
  · exact List.mem_singleton.mp h
theorem pL_rd {F : Nat → Res} (hF : Rd t F) : ∀ (n : Nat) (aw ow : Bool) (a : Nat) (cs : List Nat), a ≤ t → (∀ c, c ∈ cs → c < 1803) → a ≤ (pL t tx F n aw ow a cs).2.1 ∧ (pL t tx F n aw ow a cs).2.1 ≤ t ∧ (pL t tx F n aw ow a cs).2.2.length + a ≤ (pL t tx F n aw ow a cs).2.1 + cs.length + bn aw + bn ow ∧ (∀ c, c ∈ (pL t tx F n aw ow a cs).2.2 → c < 1803) ∧ ((pL t tx F n aw ow a cs).1 = true → a < (pL t tx F n aw ow a cs).2.1) := by
  intro n
  induction n with
  | zero =>
    intro aw ow a cs h hc
    exact ⟨Nat.le_refl _, h, by show cs.length + a ≤ a + cs.length + bn aw + bn ow; omega, hc, fun q => by cases q⟩
  | succ n ih =>
    intro aw ow a cs h hc
    obtain ⟨f1, f2, f3, f4, f5⟩ := hF a h
    have c1 : ∀ c, c ∈ cs ++ (F a).2.2 → c < 1803 := fun c hh => (List.mem_append.mp hh).elim (hc c) (f4 c)
    have c2 : ∀ c, c ∈ cs ++ (F a).2.2 ++ (if aw = true then [1] else []) → c < 1803 := fun c hh => (List.mem_append.mp hh).elim (c1 c) (fun q => by have := bl_mem q; omega)
    have c3 : ∀ c, c ∈ cs ++ (F a).2.2 ++ (if aw = true then [1] else []) ++ (if ow = true then [2] else []) → c < 1803 := fun c hh => (List.mem_append.mp hh).elim (c2 c) (fun q => by have := bl_mem q; omega)
    have l2 : (cs ++ (F a).2.2 ++ (if aw = true then [1] else [])).length = cs.length + (F a).2.2.length + bn aw := by rw [List.length_append, List.length_append, bl_len]
    have l3 : (cs ++ (F a).2.2 ++ (if aw = true then [1] else []) ++ (if ow = true then [2] else [])).length = cs.length + (F a).2.2.length + bn aw + bn ow := by rw [List.length_append, l2, bl_len]
    unfold pL
    by_cases g : (F a).1 = true
    · have f5' := f5 g
      rw [if_pos g]
      by_cases g1 : nx t tx (F a).2.1 = 38
      · rw [if_pos g1]
        have hl := nx_lt' g1 (by decide)
        obtain ⟨i1, i2, i3, i4, i5⟩ := ih true ow ((F a).2.1 + 1) _ (by omega) c2
        have b1 : bn true = 1 := rfl
        exact ⟨by omega, i2, by rw [l2] at i3; omega, i4, fun _ => by omega⟩
      · rw [if_neg g1]
        by_cases g2 : nx t tx (F a).2.1 = 124
        · rw [if_pos g2]
          have hl := nx_lt' g2 (by decide)
          obtain ⟨i1, i2, i3, i4, i5⟩ := ih false true ((F a).2.1 + 1) _ (by omega) c3
          have b1 : bn true = 1 := rfl
          have b0 : bn false = 0 := rfl
          exact ⟨by omega, i2, by rw [l3] at i3; omega, i4, fun _ => by omega⟩
        · rw [if_neg g2]
          exact ⟨f1, f2, by show (cs ++ (F a).2.2 ++ (if aw = true then [1] else []) ++ (if ow = true then [2] else [])).length + a ≤ (F a).2.1 + cs.length + bn aw + bn ow; rw [l3]; omega, c3, fun _ => f5'⟩
    · rw [if_neg g]
      exact ⟨f1, f2, by show (cs ++ (F a).2.2).length + a ≤ (F a).2.1 + cs.length + bn aw + bn ow; rw [List.length_append]; omega, c1, fun q => by cases q⟩
theorem pF_rd (ht : ∀ i, i < t → tx i < 128) : ∀ k, Rd t (pF t tx k) := by
  intro k
  induction k with
  | zero =>
    intro a h
    unfold pF
    by_cases g : nx t tx a = 33
    · rw [if_pos g]
      exact ⟨Nat.le_refl _, h, by show 0 + a ≤ a; omega, fun c hc => (by cases hc), fun q => by cases q⟩
    · rw [if_neg g]
      by_cases g2 : nx t tx a = 40
      · rw [if_pos g2]
        exact ⟨Nat.le_refl _, h, by show 0 + a ≤ a; omega, fun c hc => (by cases hc), fun q => by cases q⟩
      · rw [if_neg g2]
        exact pTest_rd ht a h
  | succ k ih =>
    intro a h
    unfold pF
    by_cases g : nx t tx a = 33
    · rw [if_pos g]
      have hl := nx_lt' g (by decide)
      obtain ⟨i1, i2, i3, i4, i5⟩ := ih (a + 1) (by omega)
      by_cases g1 : (pF t tx k (a + 1)).1 = true
      · rw [if_pos g1]
        have := i5 g1
        refine ⟨by show a ≤ (pF t tx k (a + 1)).2.1; omega, i2, by show ((pF t tx k (a + 1)).2.2 ++ [0]).length + a ≤ (pF t tx k (a + 1)).2.1; rw [List.length_append]; show (pF t tx k (a + 1)).2.2.length + 1 + a ≤ _; omega, fun c hc => (List.mem_append.mp hc).elim (i4 c) (fun q => by rw [List.mem_singleton] at q; omega), fun _ => by show a < (pF t tx k (a + 1)).2.1; omega⟩
      · rw [if_neg g1]
        exact ⟨by omega, i2, by omega, i4, fun _ => by omega⟩
    · rw [if_neg g]
      by_cases g2 : nx t tx a = 40
      · rw [if_pos g2]
        have hl := nx_lt' g2 (by decide)
        obtain ⟨i1, i2, i3, i4, i5⟩ := pL_rd (tx := tx) ih 100 false false (a + 1) [] (by omega) (fun c hc => by cases hc)
        have b0 : bn false = 0 := rfl
        have l0 : ([] : List Nat).length = 0 := rfl
        rw [b0, l0] at i3
        by_cases g3 : (pL t tx (pF t tx k) 100 false false (a + 1) []).1 = true
        · rw [if_pos g3]
          by_cases g4 : nx t tx (pL t tx (pF t tx k) 100 false false (a + 1) []).2.1 = 41
          · rw [if_pos g4]
            have hl2 := nx_lt' g4 (by decide)
            exact ⟨by show a ≤ (pL t tx (pF t tx k) 100 false false (a + 1) []).2.1 + 1; omega, by show (pL t tx (pF t tx k) 100 false false (a + 1) []).2.1 + 1 ≤ t; omega, by show (pL t tx (pF t tx k) 100 false false (a + 1) []).2.2.length + a ≤ (pL t tx (pF t tx k) 100 false false (a + 1) []).2.1 + 1; omega, i4, fun _ => by show a < (pL t tx (pF t tx k) 100 false false (a + 1) []).2.1 + 1; omega⟩
          · rw [if_neg g4]
            exact ⟨by show a ≤ (pL t tx (pF t tx k) 100 false false (a + 1) []).2.1; omega, i2, by show (pL t tx (pF t tx k) 100 false false (a + 1) []).2.2.length + a ≤ (pL t tx (pF t tx k) 100 false false (a + 1) []).2.1; omega, i4, fun q => by cases q⟩
        · rw [if_neg g3]
          exact ⟨by omega, i2, by omega, i4, fun _ => by omega⟩
      · rw [if_neg g2]
        exact pTest_rd ht a h
theorem pE_rd (ht : ∀ i, i < t → tx i < 128) (k : Nat) : Rd t (pE t tx k) := by
  intro a h
  obtain ⟨i1, i2, i3, i4, i5⟩ := pL_rd (tx := tx) (pF_rd ht k) 100 false false a [] h (fun c hc => by cases hc)
  have b0 : bn false = 0 := rfl
  have l0 : ([] : List Nat).length = 0 := rfl
  rw [b0, l0] at i3
  exact ⟨i1, i2, by show (pL t tx (pF t tx k) 100 false false a []).2.2.length + a ≤ (pL t tx (pF t tx k) 100 false false a []).2.1; omega, i4, i5⟩
/-! what the codes do -/
def tst (F : Nat → Int32) (c : Nat) : Bool := if (c - 3) / 100 % 3 = 0 then decide (F ((c - 3) / 300) < nI ((c - 3) % 100)) else if (c - 3) / 100 % 3 = 1 then decide (F ((c - 3) / 300) = nI ((c - 3) % 100)) else decide (nI ((c - 3) % 100) < F ((c - 3) / 300))
def stp (F : Nat → Int32) (c : Nat) (st : List Bool) : Option (List Bool) :=
  if c = 0 then (match st with
    | b :: r => some ((!b) :: r)
    | [] => none)
  else if c = 1 then (match st with
    | b :: a :: r => some ((a && b) :: r)
    | _ => none)
  else if c = 2 then (match st with
    | b :: a :: r => some ((a || b) :: r)
    | _ => none)
  else if st.length < 12 then some (tst F c :: st) else none
def rsx (F : Nat → Int32) : List Nat → List Bool → Option (List Bool)
  | [], st => some st
  | c :: cs, st => match stp F c st with
    | some s2 => rsx F cs s2
    | none => none
theorem rs_app {F : Nat → Int32} : ∀ (cs ds : List Nat) (st s2 : List Bool), rsx F cs st = some s2 → rsx F (cs ++ ds) st = rsx F ds s2 := by
  intro cs
  induction cs with
  | nil => intro ds st s2 h; cases h; rfl
  | cons c cs ih =>
    intro ds st s2 h
    show (match stp F c st with
      | some s2 => rsx F (cs ++ ds) s2
      | none => none) = _
    have h' : (match stp F c st with
      | some s2 => rsx F cs s2
      | none => none) = some s2 := h
    cases e : stp F c st with
    | none => rw [e] at h'; cases h'
    | some s3 =>
      rw [e] at h'
      exact ih ds s3 s2 h'
def vlx (F : Nat → Int32) (cs : List Nat) : Bool := match rsx F cs [] with
  | some (b :: _) => b
  | _ => false
/-- a run of codes puts one more on, with w places -/
def Pf (w : Nat) (cs : List Nat) : Prop := ∀ (F : Nat → Int32) (st : List Bool), st.length + w ≤ 12 → ∃ b, rsx F cs st = some (b :: st)
theorem Pf_ok {w : Nat} {cs : List Nat} (h : Pf w cs) (hw : w ≤ 12) (F : Nat → Int32) : rsx F cs [] = some [vlx F cs] := by
  obtain ⟨b, hb⟩ := h F [] (by show 0 + w ≤ 12; omega)
  unfold vlx
  rw [hb]
theorem Pf_test {c : Nat} (h : 3 ≤ c) : Pf 1 [c] := by
  intro F st hl
  refine ⟨tst F c, ?_⟩
  show (match stp F c st with
    | some s2 => rsx F [] s2
    | none => none) = _
  unfold stp
  rw [if_neg (by omega), if_neg (by omega), if_neg (by omega), if_pos (by omega)]
  rfl
theorem pTest_pf {a : Nat} (h : (pTest t tx a).1 = true) : Pf 1 (pTest t tx a).2.2 := by
  unfold pTest at h ⊢
  by_cases g : lix (nx t tx a) = 6
  · rw [if_pos g] at h
    cases h
  · rw [if_neg g] at h ⊢
    by_cases k : six (nx t tx (a + 1)) = 3
    · rw [if_pos k] at h
      cases h
    · rw [if_neg k] at h ⊢
      by_cases m : (pNum t tx (a + 2)).1 = true
      · rw [if_pos m]
        exact Pf_test (by omega)
      · rw [if_neg m] at h
        cases h
/-- what waits -/
def Wt (w : Nat) (aw ow : Bool) (cs : List Nat) : Prop := ∀ (F : Nat → Int32) (st : List Bool), st.length + w ≤ 12 → ∃ s2, rsx F cs st = some (s2 ++ st) ∧ s2.length = bn aw + bn ow
theorem wt_and {F : Nat → Int32} {aw : Bool} {cs : List Nat} {st s2 : List Bool} {b : Bool} {o : Nat} (h : rsx F cs st = some (b :: (s2 ++ st))) (hl : s2.length = bn aw + o) : ∃ b' s3, rsx F (cs ++ (if aw = true then [1] else [])) st = some (b' :: (s3 ++ st)) ∧ s3.length = o := by
  cases aw with
  | false =>
    refine ⟨b, s2, ?_, ?_⟩
    · rw [show (if false = true then [1] else []) = ([] : List Nat) from rfl, List.append_nil]
      exact h
    · rw [hl]
      show 0 + o = o
      omega
  | true =>
    have hl' : s2.length = 1 + o := hl
    match s2, hl' with
    | x :: r, hl' =>
      refine ⟨x && b, r, ?_, by rw [List.length_cons] at hl'; omega⟩
      rw [rs_app _ _ _ _ h]
      rfl
    | [], hl' =>
      have : 0 = 1 + o := hl'
      omega
theorem wt_or {F : Nat → Int32} {ow : Bool} {cs : List Nat} {st s2 : List Bool} {b : Bool} (h : rsx F cs st = some (b :: (s2 ++ st))) (hl : s2.length = bn ow) : ∃ b', rsx F (cs ++ (if ow = true then [2] else [])) st = some (b' :: st) := by
  cases ow with
  | false =>
    have : s2 = [] := List.length_eq_zero_iff.mp hl
    subst this
    refine ⟨b, ?_⟩
    rw [show (if false = true then [2] else []) = ([] : List Nat) from rfl, List.append_nil]
    exact h
  | true =>
    have hl' : s2.length = 1 := hl
    match s2, hl' with
    | x :: [], _ =>
      refine ⟨x || b, ?_⟩
      rw [rs_app _ _ _ _ h]
      rfl
    | [], hl' => cases hl'
    | _ :: _ :: _, hl' => simp at hl'
theorem pL_pf {F : Nat → Res} {w : Nat} (hF : ∀ a, (F a).1 = true → Pf w (F a).2.2) : ∀ (n : Nat) (aw ow : Bool) (a : Nat) (cs : List Nat), Wt (w + 2) aw ow cs → (pL t tx F n aw ow a cs).1 = true → Pf (w + 2) (pL t tx F n aw ow a cs).2.2 := by
  intro n
  induction n with
  | zero => intro aw ow a cs _ h; cases h
  | succ n ih =>
    intro aw ow a cs hw h
    unfold pL at h ⊢
    have b2 : ∀ b : Bool, bn b ≤ 1 := fun b => by cases b <;> decide
    by_cases g : (F a).1 = true
    · have f := hF a g
      have key : ∀ (G : Nat → Int32) (st : List Bool), st.length + (w + 2) ≤ 12 → ∃ b s3, rsx G (cs ++ (F a).2.2 ++ (if aw = true then [1] else [])) st = some (b :: (s3 ++ st)) ∧ s3.length = bn ow := by
        intro G st hl
        obtain ⟨s2, e1, e2⟩ := hw G st hl
        have := b2 aw
        have := b2 ow
        obtain ⟨b, e3⟩ := f G (s2 ++ st) (by rw [List.length_append]; omega)
        exact wt_and (F := G) (b := b) (cs := cs ++ (F a).2.2) (by rw [rs_app _ _ _ _ e1]; exact e3) e2
      have key2 : ∀ (G : Nat → Int32) (st : List Bool), st.length + (w + 2) ≤ 12 → ∃ b, rsx G (cs ++ (F a).2.2 ++ (if aw = true then [1] else []) ++ (if ow = true then [2] else [])) st = some (b :: st) := by
        intro G st hl
        obtain ⟨b, s3, e1, e2⟩ := key G st hl
        exact wt_or e1 e2
      rw [if_pos g] at h ⊢
      by_cases g1 : nx t tx (F a).2.1 = 38
      · rw [if_pos g1] at h ⊢
        refine ih true ow _ _ (fun G st hl => ?_) h
        obtain ⟨b, s3, e1, e2⟩ := key G st hl
        exact ⟨b :: s3, e1, by rw [List.length_cons, e2]; show bn ow + 1 = 1 + bn ow; omega⟩
      · rw [if_neg g1] at h ⊢
        by_cases g2 : nx t tx (F a).2.1 = 124
        · rw [if_pos g2] at h ⊢
          refine ih false true _ _ (fun G st hl => ?_) h
          obtain ⟨b, e1⟩ := key2 G st hl
          exact ⟨[b], e1, rfl⟩
        · rw [if_neg g2]
          exact key2
    · rw [if_neg g] at h
      cases h
theorem Wt_0 {w : Nat} : Wt w false false [] := fun F st _ => ⟨[], rfl, rfl⟩
theorem Pf_mono {w w2 : Nat} {cs : List Nat} (h : Pf w cs) (hw : w ≤ w2) : Pf w2 cs := fun F st hl => h F st (by omega)
theorem pF_pf : ∀ (k a : Nat), (pF t tx k a).1 = true → Pf (2 * k + 1) (pF t tx k a).2.2 := by
  intro k
  induction k with
  | zero =>
    intro a h
    unfold pF at h ⊢
    by_cases g : nx t tx a = 33
    · rw [if_pos g] at h
      cases h
    · rw [if_neg g] at h ⊢
      by_cases g2 : nx t tx a = 40
      · rw [if_pos g2] at h
        cases h
      · rw [if_neg g2] at h ⊢
        exact pTest_pf h
  | succ k ih =>
    intro a h
    unfold pF at h ⊢
    by_cases g : nx t tx a = 33
    · rw [if_pos g] at h ⊢
      by_cases g1 : (pF t tx k (a + 1)).1 = true
      · rw [if_pos g1]
        intro F st hl
        obtain ⟨b, e⟩ := ih (a + 1) g1 F st (by omega)
        refine ⟨!b, ?_⟩
        show rsx F ((pF t tx k (a + 1)).2.2 ++ [0]) st = _
        rw [rs_app _ _ _ _ e]
        rfl
      · rw [if_neg g1] at h
        exact absurd h g1
    · rw [if_neg g] at h ⊢
      by_cases g2 : nx t tx a = 40
      · rw [if_pos g2] at h ⊢
        by_cases g3 : (pL t tx (pF t tx k) 100 false false (a + 1) []).1 = true
        · have := pL_pf (t := t) (tx := tx) (F := pF t tx k) (w := 2 * k + 1) (fun a => ih a) 100 false false (a + 1) [] Wt_0 g3
          rw [if_pos g3] at h ⊢
          by_cases g4 : nx t tx (pL t tx (pF t tx k) 100 false false (a + 1) []).2.1 = 41
          · rw [if_pos g4]
            exact this
          · rw [if_neg g4] at h
            cases h
        · rw [if_neg g3] at h
          exact absurd h g3
      · rw [if_neg g2] at h ⊢
        exact Pf_mono (pTest_pf h) (by omega)
theorem pE_pf {a : Nat} (h : (pE t tx 4 a).1 = true) : Pf 11 (pE t tx 4 a).2.2 := pL_pf (w := 9) (fun a => pF_pf 4 a) 100 false false a [] Wt_0 h
end PARSE
/-- codes ask for six facts -/
theorem tst_6 {F G : Nat → Int32} (h : ∀ k, k < 6 → F k = G k) {c : Nat} (hc : c < 1803) : tst F c = tst G c := by
  unfold tst
  rw [h _ (show (c - 3) / 300 < 6 by omega)]
theorem rs_6 {F G : Nat → Int32} (h : ∀ k, k < 6 → F k = G k) : ∀ (cs : List Nat) (st : List Bool), (∀ c, c ∈ cs → c < 1803) → rsx F cs st = rsx G cs st := by
  intro cs
  induction cs with
  | nil => intro st _; rfl
  | cons c cs ih =>
    intro st hc
    have e : stp F c st = stp G c st := by
      unfold stp
      rw [tst_6 h (hc c List.mem_cons_self)]
    show (match stp F c st with
      | some s2 => rsx F cs s2
      | none => none) = (match stp G c st with
      | some s2 => rsx G cs s2
      | none => none)
    rw [e]
    cases stp G c st with
    | none => rfl
    | some s2 => exact ih s2 (fun d hd => hc d (List.mem_cons_of_mem _ hd))
