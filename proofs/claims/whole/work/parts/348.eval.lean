/-! ===== what statutes draw ===== -/
def lstep (F : Nat → Int32) (acc : Int32) (c : Cl) : Int32 := if c.1 = 0 then acc + (if vlx F c.2.2 = true then nI c.2.1 else 0) else if c.1 = 1 then acc - (if vlx F c.2.2 = true then nI c.2.1 else 0) else acc
def lsum (F : Nat → Int32) : List Cl → Int32 → Int32
  | [], acc => acc
  | c :: r, acc => lsum F r (lstep F acc c)
theorem lstep_add {F : Nat → Int32} {c : Cl} (x y : Int32) : lstep F (x + y) c = x + lstep F y c := by
  unfold lstep
  by_cases g : c.1 = 0
  · rw [if_pos g, if_pos g, Int32.add_assoc]
  · rw [if_neg g, if_neg g]
    by_cases g1 : c.1 = 1
    · rw [if_pos g1, if_pos g1, Int32.sub_eq_add_neg, Int32.sub_eq_add_neg, Int32.add_assoc]
    · rw [if_neg g1, if_neg g1]
theorem lsum_add {F : Nat → Int32} : ∀ (l : List Cl) (x y : Int32), lsum F l (x + y) = x + lsum F l y := by
  intro l
  induction l with
  | nil => intro x y; rfl
  | cons c l ih =>
    intro x y
    show lsum F l (lstep F (x + y) c) = x + lsum F l (lstep F y c)
    rw [lstep_add, ih]
theorem vlx_6 {F G : Nat → Int32} (h : ∀ k, k < 6 → F k = G k) {cs : List Nat} (hc : ∀ c, c ∈ cs → c < 1803) : vlx F cs = vlx G cs := by
  unfold vlx
  rw [rs_6 h cs [] hc]
theorem lsum_6 {F G : Nat → Int32} (h : ∀ k, k < 6 → F k = G k) : ∀ (l : List Cl) (x : Int32), (∀ c, c ∈ l → ClOk c) → lsum F l x = lsum G l x := by
  intro l
  induction l with
  | nil => intro x _; rfl
  | cons c l ih =>
    intro x hc
    have e : lstep F x c = lstep G x c := by
      unfold lstep
      rw [vlx_6 h (hc c List.mem_cons_self).2.2.1]
    show lsum F l (lstep F x c) = lsum G l (lstep G x c)
    rw [e]
    exact ih _ (fun d hd => hc d (List.mem_cons_of_mem _ hd))
/-! the class's stack of bits -/
def enc : List Bool → Nat
  | [] => 0
  | b :: r => 2 * enc r + bn b
theorem enc_lt : ∀ st : List Bool, enc st < 2 ^ st.length := by
  intro st
  induction st with
  | nil => decide
  | cons b r ih =>
    have hb : bn b ≤ 1 := by cases b <;> decide
    show 2 * enc r + bn b < 2 ^ (r.length + 1)
    rw [Nat.pow_succ]
    omega
theorem enc_12 {st : List Bool} {k : Nat} (h : st.length ≤ k) : enc st < 2 ^ k := Nat.lt_of_lt_of_le (enc_lt st) (Nat.pow_le_pow_right (by decide) h)
theorem bt_push : ∀ e, e < 2048 → ((nI e) <<< ((1 : Int32) &&& 31)) ||| (0 : Int32) = nI (2 * e) ∧ ((nI e) <<< ((1 : Int32) &&& 31)) ||| (1 : Int32) = nI (2 * e + 1) := by decide +kernel
theorem bt_not : ∀ e, e < 2048 → (nI (2 * e)) ^^^ (1 : Int32) = nI (2 * e + 1) ∧ (nI (2 * e + 1)) ^^^ (1 : Int32) = nI (2 * e) := by decide +kernel
theorem bt_and2 : ∀ e, e < 1024 → ∀ a, a < 2 → ∀ b, b < 2 → ((nI (2 * (2 * e + a) + b)) >>> ((1 : Int32) &&& 31)) &&& ((-2 : Int32) ||| ((nI (2 * (2 * e + a) + b)) &&& (1 : Int32))) = nI (2 * e + a * b) := by decide +kernel
theorem bt_or2 : ∀ e, e < 1024 → ∀ a, a < 2 → ∀ b, b < 2 → ((nI (2 * (2 * e + a) + b)) >>> ((1 : Int32) &&& 31)) ||| ((nI (2 * (2 * e + a) + b)) &&& (1 : Int32)) = nI (2 * e + (a + b - a * b)) := by decide +kernel
theorem cd_12 : ∀ l, l < 6 → ∀ g, g < 3 → ∀ v, v < 100 → (nI (l * 512 + g * 128 + v)) >>> ((12 : Int32) &&& 31) = 0 ∧ (nI (l * 512 + g * 128 + v)) &&& (4095 : Int32) = nI (l * 512 + g * 128 + v) ∧ (nI (l * 512 + g * 128 + v)) >>> ((9 : Int32) &&& 31) = nI l ∧ ((nI (l * 512 + g * 128 + v)) >>> ((7 : Int32) &&& 31)) &&& (3 : Int32) = nI g ∧ (nI (l * 512 + g * 128 + v)) &&& (127 : Int32) = nI v := by decide +kernel
theorem cd_d : ∀ n, n ≤ 99 → (nI (16384 + n)) >>> ((12 : Int32) &&& 31) = 4 ∧ (nI (16384 + n)) &&& (4095 : Int32) = nI n ∧ (nI (20480 + n)) >>> ((12 : Int32) &&& 31) = 5 ∧ (nI (20480 + n)) &&& (4095 : Int32) = nI n := by decide +kernel
section CEV
variable {N : Mem} {s f : Nat} {ss : List Nat}
/-- the statute s's steps, ready to be done for the facts at f -/
def CV (N : Mem) (s f : Nat) (ss : List Nat) : Prop := isK N s 7 = true ∧ isK N (s + 1) 14 = true ∧ mG N (s + 1) = 100 ∧ mR N s 0 = some (s + 1) ∧ ss.length ≤ 100 ∧ mI N s 1 = nI ss.length ∧ (∀ i, i < ss.length → ∃ c, ss[i]? = some c ∧ mI N (s + 1) i = nI c) ∧ isK N f 14 = true ∧ mG N f = 6
theorem CV_at (h : CV N s f ss) {pre post : List Nat} {x : Nat} (e : ss = pre ++ x :: post) : pre.length < ss.length ∧ mI N (s + 1) pre.length = nI x := by
  have hl : pre.length < ss.length := by
    rw [e, List.length_append, List.length_cons]
    omega
  obtain ⟨c, c1, c2⟩ := h.2.2.2.2.2.2.1 pre.length hl
  refine ⟨hl, ?_⟩
  have : ss[pre.length]? = some x := by
    rw [e, List.getElem?_append_right (Nat.le_refl _), Nat.sub_self]
    rfl
  rw [this] at c1
  rw [c2, ← Option.some.inj c1]
theorem b2_cases (b : Bool) : b2 b = 0 ∨ b2 b = 1 := by cases b <;> decide
theorem c_holds (h : CV N s f ss) {c : Nat} (h3 : 3 ≤ c) (hc : c < 1803) : fX7_holds N (nI (cv c)) f = some (b2 (tst (mI N f) c), N) := by
  obtain ⟨l, hl⟩ : ∃ l, l = (c - 3) / 300 := ⟨_, rfl⟩
  obtain ⟨g, hg⟩ : ∃ g, g = (c - 3) / 100 % 3 := ⟨_, rfl⟩
  obtain ⟨v, hv⟩ : ∃ v, v = (c - 3) % 100 := ⟨_, rfl⟩
  have ecv : cv c = l * 512 + g * 128 + v := by
    unfold cv
    rw [if_neg (by omega), if_neg (by omega), if_neg (by omega), hl, hg, hv]
  obtain ⟨d1, d2, d3, d4, d5⟩ := cd_12 l (by omega) g (by omega) v (by omega)
  unfold fX7_holds tst
  rw [ecv, ← hl, ← hg, ← hv, h.2.2.2.2.2.2.2.1, ck_t, h.2.2.2.2.2.2.2.2, d3, d4, d5, inb_n (show l < 6 by omega) (by decide), ck_t, tn (show l < 1000000 by omega)]
  unfold gX7_holds_54 gX7_holds_69 gX7_holds_84 gX7_holds_86
  rcases (show g = 0 ∨ g = 1 ∨ g = 2 by omega) with rfl | rfl | rfl
  · rw [if_pos (by decide), if_pos rfl]
    by_cases k : nI v ≤ mI N f l
    · rw [if_pos k, if_pos rfl, decide_eq_false (Int32.not_lt.mpr k)]
      rfl
    · rw [if_neg k, if_neg n10, decide_eq_true (Int32.not_le.mp k)]
      rfl
  · rw [if_neg (by decide), if_pos (by decide)]
    show _ = some (b2 (decide (mI N f l = nI v)), N)
    by_cases k : mI N f l = nI v
    · rw [if_pos k, if_neg n10, decide_eq_true k]
      rfl
    · rw [if_neg k, if_pos rfl, decide_eq_false k]
      rfl
  · rw [if_neg (by decide), if_neg (by decide)]
    show _ = some (b2 (decide (nI v < mI N f l)), N)
    by_cases k : mI N f l ≤ nI v
    · rw [if_pos k, if_pos rfl, decide_eq_false (Int32.not_lt.mpr k)]
      rfl
    · rw [if_neg k, if_neg n10, decide_eq_true (Int32.not_le.mp k)]
      rfl
theorem c_step (h : CV N s f ss) {pre post : List Nat} {c : Nat} (hc : c < 1803) (e : ss = pre ++ cv c :: post) {st st2 : List Bool} (hl : st.length ≤ 12) (hs : stp (mI N f) c st = some st2) (m : Nat) (sum : Int32) : gX7_drawsBy_7 (m + 1) N s f sum (nI (enc st)) (nI pre.length) = gX7_drawsBy_7 m N s f sum (nI (enc st2)) (nI (pre.length + 1)) ∧ st2.length ≤ 12 := by
  obtain ⟨hlt, hat⟩ := CV_at h e
  obtain ⟨m1, m2, m3, m4, m5, m6, -⟩ := id h
  have head : ∀ r, (if ((nI (cv c)) >>> ((12 : Int32) &&& 31)) = (0 : Int32) then (bd (fX7_holds N ((nI (cv c)) &&& (4095 : Int32)) f) fun x7 M7 => gX7_drawsBy_147 (gX7_drawsBy_7 m) M7 s f sum (((nI (enc st)) <<< ((1 : Int32) &&& 31)) ||| x7) (nI pre.length)) else if ((nI (cv c)) >>> ((12 : Int32) &&& 31)) = (1 : Int32) then (gX7_drawsBy_147 (gX7_drawsBy_7 m) N s f sum ((nI (enc st)) ^^^ (1 : Int32)) (nI pre.length)) else if ((nI (cv c)) >>> ((12 : Int32) &&& 31)) = (2 : Int32) then (gX7_drawsBy_147 (gX7_drawsBy_7 m) N s f sum (((nI (enc st)) >>> ((1 : Int32) &&& 31)) &&& ((-2 : Int32) ||| ((nI (enc st)) &&& (1 : Int32)))) (nI pre.length)) else if ((nI (cv c)) >>> ((12 : Int32) &&& 31)) = (3 : Int32) then (gX7_drawsBy_147 (gX7_drawsBy_7 m) N s f sum (((nI (enc st)) >>> ((1 : Int32) &&& 31)) ||| ((nI (enc st)) &&& (1 : Int32))) (nI pre.length)) else if ((nI (cv c)) >>> ((12 : Int32) &&& 31)) = (4 : Int32) then (gX7_drawsBy_147 (gX7_drawsBy_7 m) N s f (sum + (((nI (enc st)) &&& (1 : Int32)) * ((nI (cv c)) &&& (4095 : Int32)))) (0 : Int32) (nI pre.length)) else (gX7_drawsBy_147 (gX7_drawsBy_7 m) N s f (sum - (((nI (enc st)) &&& (1 : Int32)) * ((nI (cv c)) &&& (4095 : Int32)))) (0 : Int32) (nI pre.length))) = r → gX7_drawsBy_7 (m + 1) N s f sum (nI (enc st)) (nI pre.length) = r := by
    intro r hr
    rw [gX7_drawsBy_7_s, m1, ck_t, m6, if_neg (by rw [leL (by omega) (by omega)]; omega), m4, rb_s, m2, ck_t, m3, inb_n (show pre.length < 100 by omega) (by decide), ck_t, ck_t, tn (show pre.length < 1000000 by omega), hat]
    exact hr
  have bl : ∀ b : Bool, bn b < 2 := fun b => by cases b <;> decide
  unfold stp at hs
  by_cases c0 : c = 0
  · rw [if_pos c0] at hs
    subst c0
    match st, hl, hs with
    | b :: r, hl, hs =>
      cases hs
      refine ⟨head _ ?_, hl⟩
      have hr : enc r < 2048 := enc_12 (k := 11) (by rw [List.length_cons] at hl; omega)
      rw [show cv 0 = 4096 from rfl, if_neg (by decide), if_pos (by decide)]
      unfold gX7_drawsBy_147
      rw [nI_1]
      congr 1
      show nI (2 * enc r + bn b) ^^^ 1 = nI (2 * enc r + bn (!b))
      cases b with
      | false => exact (bt_not _ hr).1
      | true => exact (bt_not _ hr).2
    | [], hl, hs => cases hs
  · rw [if_neg c0] at hs
    by_cases c1 : c = 1
    · rw [if_pos c1] at hs
      subst c1
      match st, hl, hs with
      | b :: a :: r, hl, hs =>
        cases hs
        have hl' : r.length + 2 ≤ 12 := hl
        refine ⟨head _ ?_, by show r.length + 1 ≤ 12; omega⟩
        have hr : enc r < 1024 := enc_12 (k := 10) (by omega)
        rw [show cv 1 = 8192 from rfl, if_neg (by decide), if_neg (by decide), if_pos (by decide)]
        unfold gX7_drawsBy_147
        rw [nI_1]
        congr 1
        show nI (2 * (2 * enc r + bn a) + bn b) >>> _ &&& _ = nI (2 * enc r + bn (a && b))
        have := bt_and2 (enc r) hr (bn a) (bl a) (bn b) (bl b)
        rw [show bn (a && b) = bn a * bn b by cases a <;> cases b <;> rfl]
        exact this
      | [], hl, hs => cases hs
      | [_], hl, hs => cases hs
    · rw [if_neg c1] at hs
      by_cases c2 : c = 2
      · rw [if_pos c2] at hs
        subst c2
        match st, hl, hs with
        | b :: a :: r, hl, hs =>
          cases hs
          have hl' : r.length + 2 ≤ 12 := hl
          refine ⟨head _ ?_, by show r.length + 1 ≤ 12; omega⟩
          have hr : enc r < 1024 := enc_12 (k := 10) (by omega)
          rw [show cv 2 = 12288 from rfl, if_neg (by decide), if_neg (by decide), if_neg (by decide), if_pos (by decide)]
          unfold gX7_drawsBy_147
          rw [nI_1]
          congr 1
          show nI (2 * (2 * enc r + bn a) + bn b) >>> _ ||| _ = nI (2 * enc r + bn (a || b))
          have := bt_or2 (enc r) hr (bn a) (bl a) (bn b) (bl b)
          rw [show bn (a || b) = bn a + bn b - bn a * bn b by cases a <;> cases b <;> rfl]
          exact this
        | [], hl, hs => cases hs
        | [_], hl, hs => cases hs
      · rw [if_neg c2] at hs
        by_cases c3 : st.length < 12
        · rw [if_pos c3] at hs
          cases hs
          refine ⟨head _ ?_, by show st.length + 1 ≤ 12; omega⟩
          have hr : enc st < 2048 := enc_12 (k := 11) (by omega)
          have ecv : cv c = (c - 3) / 300 * 512 + (c - 3) / 100 % 3 * 128 + (c - 3) % 100 := by
            unfold cv
            rw [if_neg c0, if_neg c1, if_neg c2]
          obtain ⟨d1, d2, -⟩ := cd_12 ((c - 3) / 300) (by omega) ((c - 3) / 100 % 3) (by omega) ((c - 3) % 100) (by omega)
          rw [← ecv] at d1 d2
          rw [d1, if_pos rfl, d2, c_holds h (by omega) hc, bd_s]
          unfold gX7_drawsBy_147
          rw [nI_1]
          congr 1
          show _ = nI (2 * enc st + bn (tst (mI N f) c))
          cases tst (mI N f) c with
          | false => exact (bt_push _ hr).1
          | true => exact (bt_push _ hr).2
        · rw [if_neg c3] at hs
          cases hs
theorem c_run (h : CV N s f ss) : ∀ (cs pre post : List Nat) (st st2 : List Bool) (m : Nat) (sum : Int32), (∀ c, c ∈ cs → c < 1803) → ss = pre ++ cs.map cv ++ post → st.length ≤ 12 → rsx (mI N f) cs st = some st2 → gX7_drawsBy_7 (m + cs.length) N s f sum (nI (enc st)) (nI pre.length) = gX7_drawsBy_7 m N s f sum (nI (enc st2)) (nI (pre.length + cs.length)) := by
  intro cs
  induction cs with
  | nil =>
    intro pre post st st2 m sum _ _ _ hs
    cases hs
    rfl
  | cons c cs ih =>
    intro pre post st st2 m sum hc e hl hs
    have hs' : (match stp (mI N f) c st with
      | some s2 => rsx (mI N f) cs s2
      | none => none) = some st2 := hs
    cases es : stp (mI N f) c st with
    | none => rw [es] at hs'; cases hs'
    | some s2 =>
      rw [es] at hs'
      have e1 : ss = pre ++ cv c :: (cs.map cv ++ post) := by rw [e, List.map_cons, List.append_assoc]; rfl
      obtain ⟨u1, u2⟩ := c_step h (hc c List.mem_cons_self) e1 hl es (m + cs.length) sum
      have e2 : ss = (pre ++ [cv c]) ++ cs.map cv ++ post := by rw [e1]; simp
      have := ih (pre ++ [cv c]) post s2 st2 m sum (fun d hd => hc d (List.mem_cons_of_mem _ hd)) e2 u2 hs'
      rw [List.length_append] at this
      have this' : gX7_drawsBy_7 (m + cs.length) N s f sum (nI (enc s2)) (nI (pre.length + 1)) = gX7_drawsBy_7 m N s f sum (nI (enc st2)) (nI (pre.length + 1 + cs.length)) := this
      rw [List.length_cons, show m + (cs.length + 1) = (m + cs.length) + 1 by omega, u1, this', show pre.length + (cs.length + 1) = pre.length + 1 + cs.length by omega]
theorem c_cl (h : CV N s f ss) {c : Cl} (ok : ClOk c) {pre post : List Nat} (e : ss = pre ++ clS c ++ post) (m : Nat) (sum : Int32) : gX7_drawsBy_7 (m + (clS c).length) N s f sum 0 (nI pre.length) = gX7_drawsBy_7 m N s f (lstep (mI N f) sum c) 0 (nI (pre.length + (clS c).length)) := by
  obtain ⟨o1, o2, o3, o4, o5⟩ := ok
  by_cases c2 : c.1 = 2
  · have e0 : clS c = [] := if_pos c2
    have e1 : lstep (mI N f) sum c = sum := by
      unfold lstep
      rw [if_neg (by omega), if_neg (by omega)]
    rw [e0, e1]
    rfl
  · have e0 : clS c = c.2.2.map cv ++ [(if c.1 = 0 then 16384 else 20480) + c.2.1] := if_neg c2
    have l0 : (clS c).length = c.2.2.length + 1 := by rw [e0, List.length_append, List.length_map]; rfl
    rw [e0] at e
    have r := Pf_ok (o4 (by omega)) (by decide) (mI N f)
    have e1 : ss = pre ++ c.2.2.map cv ++ ([(if c.1 = 0 then 16384 else 20480) + c.2.1] ++ post) := by rw [e]; simp
    have u := c_run h c.2.2 pre _ [] _ (m + 1) sum o3 e1 (by decide) r
    have u' : gX7_drawsBy_7 (m + 1 + c.2.2.length) N s f sum 0 (nI pre.length) = gX7_drawsBy_7 (m + 1) N s f sum (nI (enc [vlx (mI N f) c.2.2])) (nI (pre.length + c.2.2.length)) := u
    rw [l0, show m + (c.2.2.length + 1) = m + 1 + c.2.2.length by omega, u']
    have e3 : ss = (pre ++ c.2.2.map cv) ++ ((if c.1 = 0 then 16384 else 20480) + c.2.1) :: post := by rw [e1]; simp
    obtain ⟨hlt, hat⟩ := CV_at h e3
    rw [List.length_append, List.length_map] at hlt hat
    obtain ⟨m1, m2, m3, m4, m5, m6, -⟩ := id h
    obtain ⟨d1, d2, d3, d4⟩ := cd_d c.2.1 o2
    have ev : enc [vlx (mI N f) c.2.2] = bn (vlx (mI N f) c.2.2) := by
      show 2 * 0 + bn _ = bn _
      omega
    have ea : (nI (bn (vlx (mI N f) c.2.2)) &&& (1 : Int32)) * nI c.2.1 = if vlx (mI N f) c.2.2 = true then nI c.2.1 else 0 := by
      cases vlx (mI N f) c.2.2 with
      | false =>
        rw [if_neg (by decide), show (nI (bn false) &&& (1 : Int32)) = nI 0 by decide, pk_mul, Nat.zero_mul]
        rfl
      | true =>
        rw [if_pos rfl, show (nI (bn true) &&& (1 : Int32)) = nI 1 by decide, pk_mul, Nat.one_mul]
    rw [gX7_drawsBy_7_s, m1, ck_t, m6, if_neg (by rw [leL (by omega) (by omega)]; omega), m4, rb_s, m2, ck_t, m3, inb_n (show pre.length + c.2.2.length < 100 by omega) (by decide), ck_t, ck_t, tn (show pre.length + c.2.2.length < 1000000 by omega), hat, ev]
    unfold gX7_drawsBy_147 lstep
    by_cases c0 : c.1 = 0
    · rw [if_pos c0, d1, d2, if_neg (by decide), if_neg (by decide), if_neg (by decide), if_neg (by decide), if_pos rfl, ea, if_pos c0, nI_1]
      rfl
    · have c1 : c.1 = 1 := by omega
      rw [if_neg c0, d3, d4, if_neg (by decide), if_neg (by decide), if_neg (by decide), if_neg (by decide), if_neg (by decide), ea, if_neg c0, if_pos c1, nI_1]
      rfl
theorem c_cls (h : CV N s f ss) : ∀ (cl : List Cl) (pre : List Nat) (m : Nat) (sum : Int32), (∀ c, c ∈ cl → ClOk c) → ss = pre ++ clsS cl → gX7_drawsBy_7 (m + (clsS cl).length + 1) N s f sum 0 (nI pre.length) = some (lsum (mI N f) cl sum, N) := by
  intro cl
  induction cl with
  | nil =>
    intro pre m sum _ e
    obtain ⟨m1, m2, m3, m4, m5, m6, -⟩ := id h
    have e' : ss = pre := by rw [e]; exact List.append_nil _
    rw [gX7_drawsBy_7_s, m1, ck_t, m6, e', if_pos (Int32.le_refl _)]
    rfl
  | cons c cl ih =>
    intro pre m sum hc e
    have e1 : ss = pre ++ clS c ++ clsS cl := by rw [e, List.append_assoc]; rfl
    have u := c_cl h (hc c List.mem_cons_self) e1 (m + (clsS cl).length + 1) sum
    have v := ih (pre ++ clS c) m (lstep (mI N f) sum c) (fun d hd => hc d (List.mem_cons_of_mem _ hd)) e1
    rw [List.length_append] at v
    show gX7_drawsBy_7 (m + (clS c ++ clsS cl).length + 1) N s f sum 0 (nI pre.length) = _
    rw [List.length_append, show m + ((clS c).length + (clsS cl).length) + 1 = m + (clsS cl).length + 1 + (clS c).length by omega, u, v]
    rfl
theorem c_draws (h : CV N s f ss) {cl : List Cl} (hc : ∀ c, c ∈ cl → ClOk c) (e : ss = clsS cl) : fX7_drawsBy N s f = some (lsum (mI N f) cl 0, N) := by
  have := h.2.2.2.2.1
  obtain ⟨m, hm⟩ := FUs (clsS cl).length (by rw [← e]; omega)
  have := c_cls h cl [] m 0 hc (by rw [e]; rfl)
  rw [← hm] at this
  exact this
end CEV
