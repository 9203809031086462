/-! ===== the class's bits ===== -/
def bt (x : Int32) (i : Nat) : Bool := x.toBitVec.getLsbD i
theorem bt_or (x y : Int32) (i : Nat) : bt (x ||| y) i = (bt x i || bt y i) := by
  unfold bt
  rw [Int32.toBitVec_or, BitVec.getLsbD_or]
theorem bt_and (x y : Int32) (i : Nat) : bt (x &&& y) i = (bt x i && bt y i) := by
  unfold bt
  rw [Int32.toBitVec_and, BitVec.getLsbD_and]
theorem bt_shr {x y : Int32} {k i : Nat} (hk : (y.toBitVec.smod 32).toNat = k) (hi : k + i < 32) : bt (x >>> y) i = bt x (k + i) := by
  unfold bt
  rw [Int32.toBitVec_shiftRight, BitVec.sshiftRight', BitVec.getLsbD_sshiftRight, hk]
  simp [hi, show i < 32 by omega]
theorem bt_shl {x y : Int32} {k i : Nat} (hk : (y.toBitVec.smod 32).toNat = k) (hi : i < 32) : bt (x <<< y) i = (decide (k ≤ i) && bt x (i - k)) := by
  unfold bt
  rw [Int32.toBitVec_shiftLeft, BitVec.shiftLeft_eq', BitVec.getLsbD_shiftLeft, hk]
  by_cases h : k ≤ i
  · simp [hi, h, show ¬ i < k by omega]
  · simp [hi, h, show i < k by omega]
theorem bt_one : ∀ c, c < 25 → ∀ i, i < 25 → bt ((1 : Int32) <<< (nI c &&& 31)) i = decide (i = c) := by decide +kernel
theorem bt_L : ∀ i, i < 31 → bt (-1082402 : Int32) i = decide (¬ (i = 0 ∨ i = 5 ∨ i = 10 ∨ i = 15 ∨ i = 20)) := by decide +kernel
theorem bt_R : ∀ i, i < 31 → bt (-17318417 : Int32) i = decide (¬ (i = 4 ∨ i = 9 ∨ i = 14 ∨ i = 19 ∨ i = 24)) := by decide +kernel
theorem sm_c : ∀ c, c < 25 → ((nI c &&& 31 : Int32).toBitVec.smod 32).toNat = c := by decide +kernel
theorem bt_test {r : Int32} {c : Nat} (hc : c < 25) : ((r >>> (nI c &&& 31)) &&& (1 : Int32)) = (1 : Int32) ↔ bt r c = true := by
  have h0 : bt (r >>> (nI c &&& 31)) 0 = bt r c := by
    rw [bt_shr (sm_c c hc) (by omega)]
    rfl
  constructor
  · intro h
    have := congrArg (fun x => bt x 0) h
    simp only [bt_and, h0, show bt (1 : Int32) 0 = true by decide] at this
    simpa using this
  · intro h
    apply Int32.toBitVec_inj.mp
    apply BitVec.eq_of_getLsbD_eq
    intro i hi
    have e1 : ((r >>> (nI c &&& 31)) &&& (1 : Int32)).toBitVec.getLsbD i = (bt (r >>> (nI c &&& 31)) i && bt (1 : Int32) i) := bt_and _ _ _
    rw [e1]
    show _ = bt (1 : Int32) i
    by_cases i0 : i = 0
    · subst i0
      rw [h0, h]
      rfl
    · have : ∀ i, i < 32 → i ≠ 0 → bt (1 : Int32) i = false := by decide +kernel
      rw [this i hi i0, Bool.and_false]
/-- the bits of what is open -/
theorem bt_open {bd : Int32} {H : Hall} : ∀ (n c : Nat) (acc : Int32), c + n = 25 → (∀ i, i < 25 → bt acc i = decide (i < c ∧ H 0 i < bd)) → (∀ i, 25 ≤ i → i < 32 → bt acc i = false) → (∀ i, i < 25 → bt (aOpen bd H n c acc) i = decide (H 0 i < bd)) ∧ ∀ i, 25 ≤ i → i < 32 → bt (aOpen bd H n c acc) i = false := by
  intro n
  induction n with
  | zero =>
    intro c acc hc h1 h2
    refine ⟨fun i hi => ?_, h2⟩
    show bt acc i = _
    rw [h1 i hi]
    simp [show i < c by omega]
  | succ n ih =>
    intro c acc hc h1 h2
    have hc25 : c < 25 := by omega
    have big : ∀ c, c < 25 → ∀ i, i < 32 → 25 ≤ i → bt ((1 : Int32) <<< (nI c &&& 31)) i = false := by decide +kernel
    unfold aOpen
    refine ih (c + 1) _ (by omega) (fun i hi => ?_) (fun i h25 hi => ?_)
    · by_cases hb : H 0 c < bd
      · rw [if_pos hb, bt_or, h1 i hi, bt_one c hc25 i hi]
        by_cases e : i = c
        · subst e
          simp [hb]
        · have : (i < c + 1) ↔ i < c := by omega
          simp [e, this]
      · rw [if_neg hb, h1 i hi]
        by_cases e : i = c
        · subst e
          simp [hb]
        · have : (i < c + 1) ↔ i < c := by omega
          simp [this]
    · by_cases hb : H 0 c < bd
      · rw [if_pos hb, bt_or, h2 i h25 hi, big c hc25 i hi h25]
        rfl
      · rw [if_neg hb]
        exact h2 i h25 hi
theorem nb_all : ∀ c, c < 25 → ∀ e, e < 25 → ((List.range 4).any fun w => decide (nxt (nI e) (nI w) = nI c)) = (decide (e = c + 5) || decide (c = e + 5) || (decide (e = c + 1) && decide (¬ (e = 0 ∨ e = 5 ∨ e = 10 ∨ e = 15 ∨ e = 20))) || (decide (c = e + 1) && decide (¬ (e = 4 ∨ e = 9 ∨ e = 14 ∨ e = 19 ∨ e = 24)))) := by decide +kernel
theorem sm_5 : (((5 : Int32) &&& 31).toBitVec.smod 32).toNat = 5 := by decide
theorem sm_1 : (((1 : Int32) &&& 31).toBitVec.smod 32).toNat = 1 := by decide
theorem nxt_rs {bd : Int32} {H : Hall} {pl k c : Nat} (hc : c < 25) : (∃ e w, e < 25 ∧ w < 4 ∧ rs bd H pl k e = true ∧ nxt (nI e) (nI w) = nI c) ↔ ∃ e, e < 25 ∧ rs bd H pl k e = true ∧ (e = c + 5 ∨ c = e + 5 ∨ (e = c + 1 ∧ ¬ (e = 0 ∨ e = 5 ∨ e = 10 ∨ e = 15 ∨ e = 20)) ∨ (c = e + 1 ∧ ¬ (e = 4 ∨ e = 9 ∨ e = 14 ∨ e = 19 ∨ e = 24))) := by
  have key : ∀ e, e < 25 → ((∃ w, w < 4 ∧ nxt (nI e) (nI w) = nI c) ↔ (e = c + 5 ∨ c = e + 5 ∨ (e = c + 1 ∧ ¬ (e = 0 ∨ e = 5 ∨ e = 10 ∨ e = 15 ∨ e = 20)) ∨ (c = e + 1 ∧ ¬ (e = 4 ∨ e = 9 ∨ e = 14 ∨ e = 19 ∨ e = 24)))) := by
    intro e he
    have h := nb_all c hc e he
    have h1 : ((List.range 4).any fun w => decide (nxt (nI e) (nI w) = nI c)) = true ↔ ∃ w, w < 4 ∧ nxt (nI e) (nI w) = nI c := by
      rw [List.any_eq_true]
      constructor
      · rintro ⟨w, hw, h⟩
        exact ⟨w, List.mem_range.mp hw, of_decide_eq_true h⟩
      · rintro ⟨w, hw, h⟩
        exact ⟨w, List.mem_range.mpr hw, decide_eq_true h⟩
    rw [← h1, h]
    simp only [Bool.or_eq_true, Bool.and_eq_true, decide_eq_true_eq, or_assoc]
  constructor
  · rintro ⟨e, w, he, hw, hr, hx⟩
    exact ⟨e, he, hr, (key e he).mp ⟨w, hw, hx⟩⟩
  · rintro ⟨e, he, hr, hx⟩
    obtain ⟨w, hw, hx⟩ := (key e he).mpr hx
    exact ⟨e, w, he, hw, hr, hx⟩
/-- one more step in bits -/
theorem bt_spread {bd o r : Int32} {H : Hall} {pl k : Nat} (ho : ∀ i, i < 25 → bt o i = decide (H 0 i < bd)) (ho2 : ∀ i, 25 ≤ i → i < 32 → bt o i = false) (hr : ∀ i, i < 25 → bt r i = rs bd H pl k i) (hr2 : ∀ i, 25 ≤ i → i < 32 → bt r i = false) : (∀ i, i < 25 → bt (aSpread o r) i = rs bd H pl (k + 1) i) ∧ ∀ i, 25 ≤ i → i < 32 → bt (aSpread o r) i = false := by
  constructor
  · intro i hi
    have e : bt (aSpread o r) i = (bt r i || (((bt r (5 + i) || (decide (5 ≤ i) && bt r (i - 5))) || ((bt r (1 + i) && bt (-1082402 : Int32) (1 + i)) || (decide (1 ≤ i) && (bt r (i - 1) && bt (-17318417 : Int32) (i - 1))))) && bt o i)) := by
      unfold aSpread
      rw [bt_or, bt_and, bt_or, bt_or, bt_or, bt_shr sm_5 (by omega), bt_shl sm_5 (by omega), bt_shr sm_1 (by omega), bt_shl sm_1 (by omega), bt_and, bt_and]
    rw [e, ho i hi, Bool.eq_iff_iff, rs_s, nxt_rs hi]
    simp only [Bool.or_eq_true, Bool.and_eq_true, decide_eq_true_eq]
    rw [hr i hi, bt_L _ (by omega), bt_R _ (by omega)]
    constructor
    · rintro (h | ⟨h, ho⟩)
      · exact Or.inl h
      · refine Or.inr ⟨ho, ?_⟩
        rcases h with (h | ⟨h1, h2⟩) | (⟨h1, h2⟩ | ⟨h1, h2, h3⟩)
        · by_cases q : 5 + i < 25
          · rw [hr _ q] at h
            exact ⟨5 + i, q, h, by omega⟩
          · rw [hr2 _ (by omega) (by omega)] at h
            cases h
        · rw [hr _ (by omega)] at h2
          exact ⟨i - 5, by omega, h2, by omega⟩
        · by_cases q : 1 + i < 25
          · rw [hr _ q] at h1
            exact ⟨1 + i, q, h1, Or.inr (Or.inr (Or.inl ⟨by omega, of_decide_eq_true h2⟩))⟩
          · rw [hr2 _ (by omega) (by omega)] at h1
            cases h1
        · rw [hr _ (by omega)] at h2
          exact ⟨i - 1, by omega, h2, Or.inr (Or.inr (Or.inr ⟨by omega, of_decide_eq_true h3⟩))⟩
    · rintro (h | ⟨ho, q, hq, hrq, h⟩)
      · exact Or.inl h
      · refine Or.inr ⟨?_, ho⟩
        rcases h with h | h | ⟨h1, h2⟩ | ⟨h1, h2⟩
        · refine Or.inl (Or.inl ?_)
          rw [show 5 + i = q by omega, hr _ hq]
          exact hrq
        · refine Or.inl (Or.inr ⟨by omega, ?_⟩)
          rw [show i - 5 = q by omega, hr _ hq]
          exact hrq
        · refine Or.inr (Or.inl ⟨?_, ?_⟩)
          · rw [show 1 + i = q by omega, hr _ hq]
            exact hrq
          · rw [show 1 + i = q by omega]
            exact decide_eq_true h2
        · refine Or.inr (Or.inr ⟨by omega, ?_, ?_⟩)
          · rw [show i - 1 = q by omega, hr _ hq]
            exact hrq
          · rw [show i - 1 = q by omega]
            exact decide_eq_true h2
  · intro i h25 hi
    unfold aSpread
    rw [bt_or, bt_and, ho2 i h25 hi, hr2 i h25 hi, Bool.and_false]
    rfl
theorem aStep_first {bd o : Int32} {H : Hall} {pl c : Nat} (hc : c < 25) (ho : ∀ i, i < 25 → bt o i = decide (H 0 i < bd)) (ho2 : ∀ i, 25 ≤ i → i < 32 → bt o i = false) : ∀ (n i : Nat) (r : Int32), (∀ j, j < 25 → bt r j = rs bd H pl i j) → (∀ j, 25 ≤ j → j < 32 → bt r j = false) → aStep (nI c) o n i r = aFirst bd H pl c n i := by
  intro n
  induction n with
  | zero => intro i r _ _; rfl
  | succ n ih =>
    intro i r h1 h2
    unfold aStep aFirst
    have e := bt_test (r := r) hc
    rw [h1 c hc] at e
    by_cases hh : rs bd H pl i c = true
    · rw [if_pos hh, if_pos (e.mpr hh)]
    · rw [if_neg hh, if_neg (fun g => hh (e.mp g))]
      obtain ⟨g1, g2⟩ := bt_spread ho ho2 h1 h2
      exact ih (i + 1) _ g1 g2
theorem aSteps_eq {bd : Int32} {H : Hall} {pl c : Nat} (hc : c < 25) (hpl : pl < 25) : aStep (nI c) (aOpen bd H 25 0 0) 25 0 ((1 : Int32) <<< (nI pl &&& 31)) = aFirst bd H pl c 25 0 := by
  have z : ∀ i, i < 32 → bt (0 : Int32) i = false := by decide +kernel
  obtain ⟨o1, o2⟩ := bt_open (bd := bd) (H := H) 25 0 0 rfl (fun i hi => by rw [z i (by omega)]; simp) (fun i _ hi => z i hi)
  have big : ∀ c, c < 25 → ∀ i, i < 32 → 25 ≤ i → bt ((1 : Int32) <<< (nI c &&& 31)) i = false := by decide +kernel
  exact aStep_first hc o1 o2 25 0 _ (fun j hj => by rw [bt_one pl hpl j hj]; rfl) (fun j h1 h2 => big pl hpl j h2 h1)
/-! ===== way ===== -/
theorem m_way {M : Mem} {n : Nat} (h : Inv M n) (x y z : Int32) : Ok1 (fun M => fX11_way M 0 x y z) (fun M => fX12_way M 55 x y z) M := by
  obtain ⟨s, lw, bd, o⟩ := Op_of h
  obtain ⟨q, hq, e1, e2⟩ := Op_n o
  have hS := o.1
  have eH := o.2.2.2.2.1
  have hB := o.2.2.2.2.2.1
  rcases cs_person hq x with ⟨p, hp, hp6, rfl, c1, m1⟩ | ⟨c0, m0⟩
  · rcases cs_cell y with ⟨c, hc, rfl, d1, d2⟩ | ⟨d1, d2⟩
    · have e2N : ∀ N, hM N = hM M → mI N 55 1 = nI q := fun N e => by rw [hM_p, e]; exact e2
      by_cases z0 : z = 0
      · subst z0
        obtain ⟨N, n1, n2, n3, n4⟩ := p_try2 o
        obtain ⟨P, p1, p2⟩ := t_hoursTo (to := nI c) n4 hp6 (by omega)
        have hSN := n4.1
        rw [n3] at p1
        have qc := Qc_t n2 (Qc_Fr p2)
        obtain ⟨o2, eh⟩ := Op_qc o qc
        obtain ⟨Q, q1, q2, -⟩ := p_mgets (to := nI c) o2.1 (Op_Mq o2) o2.2.2.2.2.2.1 (by omega) hp6
        refine Ok_q h (a := aGets lw (nI bd) p (nI c) 41 0 (hM M)) (N := P) ?_ qc ⟨Q, ?_, q2⟩
        · simp only [fX11_way, k_0 hS, c1 M hS e1, bd_s, d1, show ¬ (1 : Int32) = 0 by decide, if_false, if_true, r_0_1 hS, r_0_0 hS, k_39 hS, ck_t, rb_s, n1, k_0 hSN, r_0_1 hSN, k_39 hSN, p1]
        · simp only [fX12_way, k_55 o2.1, m1 P o2.1 (e2N P eh), bd_s, d2, show ¬ (1 : Int32) = 0 by decide, if_false, if_true, ck_t, q1, eh]
      by_cases z1 : z = 1
      · subst z1
        obtain ⟨pl, hpl, epl⟩ := hB.1.2.2.2.2.1 p hp6
        obtain ⟨Q, q1, q2⟩ := p_msteps (c := c) hS (Op_Mq o) hp6 hc epl hpl
        refine Ok_q h (a := aFirst (nI bd) (hM M) pl c 25 0) (N := M) ?_ Qc_r ⟨Q, ?_, q2⟩
        · simp only [fX11_way, k_0 hS, c1 M hS e1, bd_s, d1, show ¬ (1 : Int32) = 0 by decide, if_false, if_true, r_0_0 hS, k_31 hS, ck_t, rb_s, p_stepsTo (Hl_31 hS) o.2.1 (Op_Sq o) hp6, eH, epl, aSteps_eq hc hpl]
        · simp only [fX12_way, k_55 hS, m1 M hS e2, bd_s, d2, show ¬ (1 : Int32) = 0 by decide, if_false, if_true, ck_t, q1]
      by_cases z2 : z = 2
      · subst z2
        obtain ⟨N, n1, n2⟩ := p_block (to := nI c) o hp6 hq e2
        obtain ⟨o2, eh⟩ := Op_qc o n2
        obtain ⟨Q, q1, q2⟩ := p_mblock (to := nI c) o2 hp6 hq (by rw [eh]; exact e2)
        refine Ok_q h (a := aBlock lw (nI bd) p q (nI c) (hM M)) (N := N) ?_ n2 ⟨Q, ?_, q2⟩
        · simp only [fX11_way, k_0 hS, c1 M hS e1, bd_s, d1, show ¬ (1 : Int32) = 0 by decide, z0, z1, if_false, if_true, ck_t, n1]
        · simp only [fX12_way, k_55 o2.1, m1 N o2.1 (e2N N eh), bd_s, d2, show ¬ (1 : Int32) = 0 by decide, z0, z1, if_false, if_true, ck_t, q1, eh]
      · refine Ok_m h (a := -1) ?_ ?_
        · simp only [fX11_way, k_0 hS, c1 M hS e1, bd_s, d1, show ¬ (1 : Int32) = 0 by decide, z0, z1, z2, if_false, ck_t]
        · simp only [fX12_way, k_55 hS, m1 M hS e2, bd_s, d2, show ¬ (1 : Int32) = 0 by decide, z0, z1, z2, if_false, ck_t]
    · refine Ok_m h (a := -1) ?_ ?_
      · simp only [fX11_way, k_0 hS, c1 M hS e1, d1, ck_t, bd_s, show ¬ (1 : Int32) = 0 by decide, if_true, if_false]
      · simp only [fX12_way, k_55 hS, m1 M hS e2, d2, ck_t, bd_s, show ¬ (1 : Int32) = 0 by decide, if_true, if_false]
  · refine Ok_m h (a := -1) ?_ ?_
    · simp only [fX11_way, k_0 hS, c0 M hS e1, ck_t, bd_s, if_true]
    · simp only [fX12_way, k_55 hS, m0 M hS e2, ck_t, bd_s, if_true]
