/-! ===== what the model's statutes draw ===== -/
theorem m_letter {M : Mem} {p c l : Nat} (hS : Sh M) (hp : p < 6) (hc : c < 25) (hl : l < 6) : fX12_letterOf M 55 (nI p) (nI c) (nI l) = some (aF (hM M) p c l, M) := by
  have ip := inb_n hp (by decide : 6 < 1000000)
  have tp := tn (show p < 1000000 by omega)
  have ic := inb_n hc (by decide : 25 < 1000000)
  have tc := tn (show c < 1000000 by omega)
  unfold fX12_letterOf
  rcases (show l = 0 ∨ l = 1 ∨ l = 2 ∨ l = 3 ∨ l = 4 ∨ l = 5 by omega) with rfl | rfl | rfl | rfl | rfl | rfl
  · rw [if_pos (by decide)]
    rfl
  · rw [if_neg (by decide), if_pos (by decide), k_55 hS, ck_t, r_55_2 hS, rb_s, k_57 hS, ck_t, g_57 hS, ip, ck_t, tp, hM_1 hp]
    rfl
  · rw [if_neg (by decide), if_neg (by decide), if_pos (by decide), k_55 hS, ck_t, r_55_3 hS, rb_s, k_58 hS, ck_t, g_58 hS, ip, ck_t, tp, hM_2 hp]
    rfl
  · rw [if_neg (by decide), if_neg (by decide), if_neg (by decide), if_pos (by decide)]
    rfl
  · rw [if_neg (by decide), if_neg (by decide), if_neg (by decide), if_neg (by decide), if_pos (by decide), k_55 hS, ck_t, r_55_0 hS, rb_s, k_56 hS, ck_t, g_56 hS, ic, ck_t, tc, hM_0 hc]
    rfl
  · rw [if_neg (by decide), if_neg (by decide), if_neg (by decide), if_neg (by decide), if_neg (by decide), k_55 hS, ck_t]
    rfl
/-- the model's stack: the places below the top -/
def SK (G : Nat → Int32) : List Bool → Prop
  | [] => True
  | b :: r => G r.length = b2 b ∧ SK G r
theorem SK_up {G : Nat → Int32} {i : Nat} {x : Int32} : ∀ (st : List Bool), st.length ≤ i → SK G st → SK (upd G i x) st := by
  intro st
  induction st with
  | nil => intro _ _; trivial
  | cons b r ih =>
    intro hi h
    have hi' : r.length + 1 ≤ i := hi
    exact ⟨by rw [pk_un (show r.length ≠ i by omega)]; exact h.1, ih (by omega) h.2⟩
section MEV
variable {M : Mem} {p cl ix bg : Nat} {cs0 : List Nat}
/-- the codes of clause ix, ready to be done -/
def MV (M : Mem) (ix bg : Nat) (cs0 : List Nat) : Prop := Sh M ∧ ix < 61 ∧ bg + cs0.length ≤ 700 ∧ mI M 66 ix = nI bg ∧ mI M 67 ix = nI cs0.length ∧ (∀ i, i < cs0.length → ∃ c, cs0[i]? = some c ∧ mI M 68 (bg + i) = nI c) ∧ ∀ c, c ∈ cs0 → c < 1803
theorem MV_at (h : MV M ix bg cs0) {pre post : List Nat} {x : Nat} (e : cs0 = pre ++ x :: post) : pre.length < cs0.length ∧ mI M 68 (bg + pre.length) = nI x := by
  have hl : pre.length < cs0.length := by
    rw [e, List.length_append, List.length_cons]
    omega
  obtain ⟨c, c1, c2⟩ := h.2.2.2.2.2.1 pre.length hl
  refine ⟨hl, ?_⟩
  have : cs0[pre.length]? = some x := by
    rw [e, List.getElem?_append_right (Nat.le_refl _), Nat.sub_self]
    rfl
  rw [this] at c1
  rw [c2, ← Option.some.inj c1]
theorem m_step (h : MV M ix bg cs0) (hp : p < 6) (hc : cl < 25) {pre post : List Nat} {c : Nat} (e : cs0 = pre ++ c :: post) {st st2 : List Bool} (hl : st.length ≤ 12) (hs : stp (aF (hM M) p cl) c st = some st2) {G : Nat → Int32} (hG : SK G st) (m : Nat) : ∃ G2, gX12_isTrue_11 (m + 1) (wF M 69 G) 55 (nI p) (nI cl) (nI ix) (nI st.length) (nI (bg + pre.length)) = gX12_isTrue_11 m (wF M 69 G2) 55 (nI p) (nI cl) (nI ix) (nI st2.length) (nI (bg + (pre.length + 1))) ∧ SK G2 st2 ∧ st2.length ≤ 12 := by
  obtain ⟨hlt, hat⟩ := MV_at h e
  obtain ⟨hS, hx, hb, h66, h67, hcs, hcc⟩ := id h
  have hc3 : c < 1803 := hcc c (by rw [e]; exact List.mem_append_right _ List.mem_cons_self)
  have hSG : ∀ G, Sh (wF M 69 G) := fun G => Sh_1 rfl hS
  have ik := inb_n hx (by decide : 61 < 1000000)
  have tk := tn (show ix < 1000000 by omega)
  have w66 : mI (wF M 69 G) 66 ix = nI bg := by rw [mI_wF, if_neg (by omega)]; exact h66
  have w67 : mI (wF M 69 G) 67 ix = nI cs0.length := by rw [mI_wF, if_neg (by omega)]; exact h67
  have w68 : mI (wF M 69 G) 68 (bg + pre.length) = nI c := by rw [mI_wF, if_neg (by omega)]; exact hat
  have w69 : ∀ j, mI (wF M 69 G) 69 j = G j := fun j => by rw [mI_wF, if_pos rfl]
  have i110 : ∀ j, j < 110 → inb (nI j) 110 = true := fun j hj => inb_n hj (by decide)
  rw [gX12_isTrue_11_s, k_55 (hSG G), ck_t, r_55_19 (hSG G), rb_s, k_66 (hSG G), ck_t, g_66 (hSG G), ik, ck_t, r_55_20 (hSG G), rb_s, k_67 (hSG G), ck_t, g_67 (hSG G), ik, ck_t, tk, w66, w67, nI_add, if_neg (by rw [leL (by omega) (by omega)]; omega), r_55_21 (hSG G), rb_s, k_68 (hSG G), ck_t, g_68 (hSG G), inb_n (show bg + pre.length < 800 by omega) (by decide), ck_t, tn (show bg + pre.length < 1000000 by omega), w68]
  unfold stp at hs
  unfold gX12_isTrue_176 gX12_isTrue_223 gX12_isTrue_249 gX12_isTrue_254 gX12_isTrue_142 gX12_isTrue_255
  have nx1 : nI (bg + pre.length) + 1 = nI (bg + (pre.length + 1)) := by rw [nI_1, Nat.add_assoc]
  rw [nx1]
  by_cases c0 : c = 0
  · rw [if_pos c0] at hs
    subst c0
    match st, hl, hs, hG with
    | b :: r, hl, hs, hG =>
      cases hs
      have hl' : r.length + 1 ≤ 12 := hl
      have es : nI (b :: r).length - 1 = nI r.length := nI_pred r.length
      rw [if_pos (by decide), if_pos (by decide), es, r_55_23 (hSG G), rb_s, k_69 (hSG G), g_69 (hSG G), i110 r.length (by omega), tn (show r.length < 1000000 by omega), w69, hG.1]
      simp only [ck_t, show b01 (1 : Int32) = true by decide, show b01 (0 : Int32) = true by decide]
      refine ⟨upd G r.length (b2 (!b)), ?_, ⟨pk_us, SK_up r (Nat.le_refl _) hG.2⟩, hl⟩
      cases b with
      | false =>
        rw [if_pos (by decide), stI_wF]
        rfl
      | true =>
        rw [if_neg (by decide), stI_wF]
        rfl
    | [], hl, hs, hG => cases hs
  · rw [if_neg c0] at hs
    by_cases c12 : c = 1 ∨ c = 2
    · -- two go, one comes
      have two : ∃ b a r, st = b :: a :: r ∧ st2 = (if c = 1 then (a && b) else (a || b)) :: r := by
        rcases c12 with rfl | rfl
        · rw [if_pos rfl] at hs
          match st, hs with
          | b :: a :: r, hs => cases hs; exact ⟨b, a, r, rfl, by rw [if_pos rfl]⟩
          | [], hs => cases hs
          | [_], hs => cases hs
        · rw [if_neg (by decide), if_pos rfl] at hs
          match st, hs with
          | b :: a :: r, hs => cases hs; exact ⟨b, a, r, rfl, by rw [if_neg (by decide)]⟩
          | [], hs => cases hs
          | [_], hs => cases hs
      obtain ⟨b, a, r, e1, e2⟩ := two
      subst e1 e2
      obtain ⟨hG1, hG2, hG3⟩ := hG
      have hG1' : G (r.length + 1) = b2 b := hG1
      have hl' : r.length + 2 ≤ 12 := hl
      have es1 : nI (b :: a :: r).length + (-1) = nI (r.length + 1) := pk_m1 (r.length + 1)
      have es2 : nI (r.length + 1) - 1 = nI r.length := nI_pred r.length
      have cl3 : nI c < 3 := by
        rw [show (3 : Int32) = nI 3 from rfl, ltL (by omega) (by omega)]
        omega
      have cn0 : ¬ nI c = 0 := by
        rw [show (0 : Int32) = nI 0 from rfl, eqL (by omega) (by omega)]
        exact c0
      rw [if_pos cl3, if_neg cn0, es1, es2, r_55_23 (hSG G), rb_s, k_69 (hSG G), g_69 (hSG G), i110 r.length (by omega), i110 (r.length + 1) (by omega), tn (show r.length < 1000000 by omega), tn (show r.length + 1 < 1000000 by omega), w69, w69, hG1', hG2]
      simp only [ck_t, show b01 (1 : Int32) = true by decide, show b01 (0 : Int32) = true by decide]
      have fin : ∀ x : Bool, SK (upd G r.length (b2 x)) (x :: r) := fun x => ⟨pk_us, SK_up r (Nat.le_refl _) hG3⟩
      have len : ∀ x : Bool, nI (x :: r).length = nI (r.length + 1) := fun x => rfl
      have p1 : gX12_isTrue_11 m (stI (wF M 69 G) 69 r.length 1) 55 (nI p) (nI cl) (nI ix) (nI (r.length + 1)) (nI (bg + (pre.length + 1))) = gX12_isTrue_11 m (wF M 69 (upd G r.length (b2 true))) 55 (nI p) (nI cl) (nI ix) (nI (r.length + 1)) (nI (bg + (pre.length + 1))) := by
        rw [stI_wF]
        rfl
      have p0 : gX12_isTrue_11 m (stI (wF M 69 G) 69 r.length 0) 55 (nI p) (nI cl) (nI ix) (nI (r.length + 1)) (nI (bg + (pre.length + 1))) = gX12_isTrue_11 m (wF M 69 (upd G r.length (b2 false))) 55 (nI p) (nI cl) (nI ix) (nI (r.length + 1)) (nI (bg + (pre.length + 1))) := by
        rw [stI_wF]
        rfl
      refine ⟨upd G r.length (b2 (if c = 1 then (a && b) else (a || b))), ?_, fin _, by show r.length + 1 ≤ 12; omega⟩
      rw [len]
      rcases c12 with rfl | rfl
      · rw [if_pos (show nI 1 = 1 by decide), if_pos rfl]
        cases a with
        | false => rw [if_pos (by decide)]; exact p0
        | true =>
          rw [if_neg (by decide)]
          cases b with
          | false => rw [if_pos (by decide)]; exact p0
          | true => rw [if_neg (by decide)]; exact p1
      · rw [if_neg (show ¬ nI 2 = 1 by decide), if_neg (show ¬ (2 : Nat) = 1 by decide)]
        cases a with
        | false =>
          rw [if_pos (by decide)]
          cases b with
          | false => rw [if_pos (by decide)]; exact p0
          | true => rw [if_neg (by decide)]; exact p1
        | true => rw [if_neg (by decide)]; exact p1
    · have c1 : ¬ c = 1 := fun q => c12 (Or.inl q)
      have c2 : ¬ c = 2 := fun q => c12 (Or.inr q)
      rw [if_neg c1, if_neg c2] at hs
      by_cases c3 : st.length < 12
      · rw [if_pos c3] at hs
        cases hs
        have ecc : nI c - 3 = nI (c - 3) := by rw [show (3 : Int32) = nI 3 from rfl, pk_sub (by omega)]
        have e300 : nI (c - 3) / 300 = nI ((c - 3) / 300) := pk_div (d := 300) (by omega) (by decide) (by decide)
        have e100 : nI (c - 3) / 100 = nI ((c - 3) / 100) := pk_div (d := 100) (by omega) (by decide) (by decide)
        have e3 : nI ((c - 3) / 100) - nI ((c - 3) / 100) / 3 * 3 = nI ((c - 3) / 100 % 3) := pk_rem (d := 3) (by omega) (by decide) (by decide)
        have er : nI (c - 3) - nI ((c - 3) / 100) * 100 = nI ((c - 3) % 100) := by
          rw [← e100]
          exact pk_rem (d := 100) (by omega) (by decide) (by decide)
        have hH : hM (wF M 69 G) = hM M := hM_w (by omega)
        have ml := m_letter (M := wF M 69 G) (l := (c - 3) / 300) (hSG G) hp hc (by omega)
        rw [hH] at ml
        rw [if_neg (by rw [show (3 : Int32) = nI 3 from rfl, ltL (by omega) (by omega)]; omega), ecc, e300, e100, e3, er, ml, bd_s, k_55 (hSG G), ck_t, r_55_23 (hSG G), rb_s, k_69 (hSG G), g_69 (hSG G), i110 st.length (by omega), tn (show st.length < 1000000 by omega), nI_1]
        have o1 : b01 (1 : Int32) = true := by decide
        have o0 : b01 (0 : Int32) = true := by decide
        simp only [o1, o0, ck_t]
        refine ⟨upd G st.length (b2 (tst (aF (hM M) p cl) c)), ?_, ⟨pk_us, SK_up st (Nat.le_refl _) hG⟩, by show st.length + 1 ≤ 12; omega⟩
        have p1 : gX12_isTrue_11 m (stI (wF M 69 G) 69 st.length 1) 55 (nI p) (nI cl) (nI ix) (nI (st.length + 1)) (nI (bg + (pre.length + 1))) = gX12_isTrue_11 m (wF M 69 (upd G st.length (b2 true))) 55 (nI p) (nI cl) (nI ix) (nI (st.length + 1)) (nI (bg + (pre.length + 1))) := by
          rw [stI_wF]
          rfl
        have p0 : gX12_isTrue_11 m (stI (wF M 69 G) 69 st.length 0) 55 (nI p) (nI cl) (nI ix) (nI (st.length + 1)) (nI (bg + (pre.length + 1))) = gX12_isTrue_11 m (wF M 69 (upd G st.length (b2 false))) 55 (nI p) (nI cl) (nI ix) (nI (st.length + 1)) (nI (bg + (pre.length + 1))) := by
          rw [stI_wF]
          rfl
        rw [p1, p0]
        show _ = gX12_isTrue_11 m (wF M 69 (upd G st.length (b2 (tst (aF (hM M) p cl) c)))) 55 (nI p) (nI cl) (nI ix) (nI (st.length + 1)) (nI (bg + (pre.length + 1)))
        unfold tst
        rcases (show (c - 3) / 100 % 3 = 0 ∨ (c - 3) / 100 % 3 = 1 ∨ (c - 3) / 100 % 3 = 2 by omega) with g | g | g
        · rw [g, if_pos (show nI 0 = 0 by decide), if_pos rfl]
          by_cases k : nI ((c - 3) % 100) ≤ aF (hM M) p cl ((c - 3) / 300)
          · rw [if_pos k, decide_eq_false (Int32.not_lt.mpr k)]
          · rw [if_neg k, decide_eq_true (Int32.not_le.mp k)]
        · rw [g, if_neg (show ¬ nI 1 = 0 by decide), if_pos (show nI 1 = 1 by decide), if_neg (show ¬ (1 : Nat) = 0 by decide), if_pos rfl]
          by_cases k : aF (hM M) p cl ((c - 3) / 300) = nI ((c - 3) % 100)
          · rw [if_pos k, decide_eq_true k]
          · rw [if_neg k, decide_eq_false k]
        · rw [g, if_neg (show ¬ nI 2 = 0 by decide), if_neg (show ¬ nI 2 = 1 by decide), if_neg (show ¬ (2 : Nat) = 0 by decide), if_neg (show ¬ (2 : Nat) = 1 by decide)]
          by_cases k : aF (hM M) p cl ((c - 3) / 300) ≤ nI ((c - 3) % 100)
          · rw [if_pos k, decide_eq_false (Int32.not_lt.mpr k)]
          · rw [if_neg k, decide_eq_true (Int32.not_le.mp k)]
      · rw [if_neg c3] at hs
        cases hs
theorem m_run (h : MV M ix bg cs0) (hp : p < 6) (hc : cl < 25) : ∀ (cs pre : List Nat) (st st2 : List Bool) (m : Nat) (G : Nat → Int32), cs0 = pre ++ cs → st.length ≤ 12 → rsx (aF (hM M) p cl) cs st = some st2 → SK G st → ∃ G2, gX12_isTrue_11 (m + cs.length) (wF M 69 G) 55 (nI p) (nI cl) (nI ix) (nI st.length) (nI (bg + pre.length)) = gX12_isTrue_11 m (wF M 69 G2) 55 (nI p) (nI cl) (nI ix) (nI st2.length) (nI (bg + (pre.length + cs.length))) ∧ SK G2 st2 := by
  intro cs
  induction cs with
  | nil =>
    intro pre st st2 m G _ _ hs hG
    cases hs
    exact ⟨G, rfl, hG⟩
  | cons c cs ih =>
    intro pre st st2 m G e hl hs hG
    have hs' : (match stp (aF (hM M) p cl) c st with
      | some s2 => rsx (aF (hM M) p cl) cs s2
      | none => none) = some st2 := hs
    cases es : stp (aF (hM M) p cl) c st with
    | none => rw [es] at hs'; cases hs'
    | some s2 =>
      rw [es] at hs'
      obtain ⟨G1, u1, u2, u3⟩ := m_step h hp hc e hl es hG (m + cs.length)
      have e2 : cs0 = (pre ++ [c]) ++ cs := by rw [e]; simp
      obtain ⟨G2, v1, v2⟩ := ih (pre ++ [c]) s2 st2 m G1 e2 u3 hs' u2
      rw [List.length_append] at v1
      have v1' : gX12_isTrue_11 (m + cs.length) (wF M 69 G1) 55 (nI p) (nI cl) (nI ix) (nI s2.length) (nI (bg + (pre.length + 1))) = gX12_isTrue_11 m (wF M 69 G2) 55 (nI p) (nI cl) (nI ix) (nI st2.length) (nI (bg + (pre.length + 1 + cs.length))) := v1
      refine ⟨G2, ?_, v2⟩
      rw [List.length_cons, show m + (cs.length + 1) = (m + cs.length) + 1 by omega, u1, v1', show pre.length + (cs.length + 1) = pre.length + 1 + cs.length by omega]
theorem m_true (h : MV M ix bg cs0) (hp : p < 6) (hc : cl < 25) (hf : Pf 11 cs0) (G : Nat → Int32) : ∃ G2, fX12_isTrue (wF M 69 G) 55 (nI p) (nI cl) (nI ix) = some (b2 (vlx (aF (hM M) p cl) cs0), wF M 69 G2) := by
  obtain ⟨hS, hx, hb, h66, h67, hcs, hcc⟩ := id h
  have hSG : ∀ G, Sh (wF M 69 G) := fun G => Sh_1 rfl hS
  have ik := inb_n hx (by decide : 61 < 1000000)
  have tk := tn (show ix < 1000000 by omega)
  have w66 : ∀ G, mI (wF M 69 G) 66 ix = nI bg := fun G => by rw [mI_wF, if_neg (by omega)]; exact h66
  have w67 : ∀ G, mI (wF M 69 G) 67 ix = nI cs0.length := fun G => by rw [mI_wF, if_neg (by omega)]; exact h67
  obtain ⟨m, hm⟩ := FUs cs0.length (by omega)
  obtain ⟨G2, u1, u2⟩ := m_run h hp hc cs0 [] [] _ (m + 1) G rfl (by decide) (Pf_ok hf (by decide) (aF (hM M) p cl)) trivial
  have u1' : gX12_isTrue_11 (m + 1 + cs0.length) (wF M 69 G) 55 (nI p) (nI cl) (nI ix) 0 (nI bg) = gX12_isTrue_11 (m + 1) (wF M 69 G2) 55 (nI p) (nI cl) (nI ix) (nI 1) (nI (bg + (0 + cs0.length))) := u1
  refine ⟨G2, ?_⟩
  unfold fX12_isTrue
  have hb1 : b01 (b2 (vlx (aF (hM M) p cl) cs0)) = true := by cases vlx (aF (hM M) p cl) cs0 <;> rfl
  have g0 : mI (wF M 69 G2) 69 0 = b2 (vlx (aF (hM M) p cl) cs0) := by rw [mI_wF, if_pos rfl]; exact u2.1
  rw [k_55 (hSG G), ck_t, r_55_19 (hSG G), rb_s, k_66 (hSG G), ck_t, g_66 (hSG G), ik, ck_t, tk, w66, hm, show m + cs0.length + 1 = m + 1 + cs0.length by omega, u1', gX12_isTrue_11_s, k_55 (hSG G2), ck_t, r_55_19 (hSG G2), rb_s, k_66 (hSG G2), ck_t, g_66 (hSG G2), ik, ck_t, r_55_20 (hSG G2), rb_s, k_67 (hSG G2), ck_t, g_67 (hSG G2), ik, ck_t, tk, w66, w67, nI_add, if_pos (by rw [leL (by omega) (by omega)]; omega), r_55_23 (hSG G2), rb_s, k_69 (hSG G2), ck_t, g_69 (hSG G2), show inb (0 : Int32) 110 = true by decide, ck_t, tl0, g0, hb1, ck_t]
end MEV
/-- the model's statute j has these clauses -/
def MLw (N : Mem) (j : Nat) (cl : List Cl) (cd : Nat) : Prop := j < 6 ∧ cl.length ≤ 10 ∧ cd ≤ 700 ∧ mI N 63 j = nI cl.length ∧ (∀ i c, cl[i]? = some c → MC N (10 * j + i) cd c) ∧ ∀ c, c ∈ cl → ClOk c
theorem getE_cons {α : Type} {l pre post : List α} {x : α} (e : l = pre ++ x :: post) : l[pre.length]? = some x := by
  rw [e, List.getElem?_append_right (Nat.le_refl _), Nat.sub_self]
  rfl
theorem m_sumL {N : Mem} {j cd p c0 : Nat} {cl : List Cl} (hS : Sh N) (hj : mI N 55 15 = nI j) (h : MLw N j cl cd) (hp : p < 6) (hc : c0 < 25) : ∀ (l pre : List Cl) (m : Nat) (acc : Int32) (G : Nat → Int32), cl = pre ++ l → ∃ G2, gX12_sum_10 (m + l.length + 1) (wF N 69 G) 55 (nI p) (nI c0) acc (nI pre.length) = some (lsum (aF (hM N) p c0) l acc, wF N 69 G2) := by
  obtain ⟨j6, l10, hcd, h63, hcl, hok⟩ := h
  have hSG : ∀ G, Sh (wF N 69 G) := fun G => Sh_1 rfl hS
  have wI : ∀ G b i, b ≠ 69 → mI (wF N 69 G) b i = mI N b i := fun G b i hb => by rw [mI_wF, if_neg hb]
  have jm1 : ¬ nI j = -1 := m1_ne (by omega)
  have e15 : ∀ G, mI (wF N 69 G) 55 15 = nI j := fun G => (wI G 55 15 (by omega)).trans hj
  have e63 : ∀ G, mI (wF N 69 G) 63 j = nI cl.length := fun G => (wI G 63 j (by omega)).trans h63
  intro l
  induction l with
  | nil =>
    intro pre m acc G e
    have e' : cl = pre := by rw [e, List.append_nil]
    refine ⟨G, ?_⟩
    rw [gX12_sum_10_s, k_55 (hSG G), ck_t, e15 G, if_neg jm1, r_55_16 (hSG G), rb_s, k_63 (hSG G), ck_t, g_63 (hSG G), inb_n j6 (by decide), ck_t, tn (show j < 1000000 by omega), e63 G, e', if_pos (Int32.le_refl _)]
    rfl
  | cons c l ih =>
    intro pre m acc G e
    have hl : pre.length < cl.length := by
      rw [e, List.length_append, List.length_cons]
      omega
    have hmc := hcl pre.length c (getE_cons e)
    have ok := hok c (by rw [e]; exact List.mem_append_right _ List.mem_cons_self)
    obtain ⟨m1, m2, bg, m3, m4, m5, m6⟩ := hmc
    obtain ⟨o1, o2, o3, o4, o5⟩ := id ok
    have eix : 10 * nI j + nI pre.length = nI (10 * j + pre.length) := by rw [show (10 : Int32) = nI 10 from rfl, pk_mul, nI_add]
    have hx : 10 * j + pre.length < 61 := by omega
    have ik := inb_n hx (by decide : 61 < 1000000)
    have tk := tn (show 10 * j + pre.length < 1000000 by omega)
    have w64 : ∀ G, mI (wF N 69 G) 64 (10 * j + pre.length) = nI c.1 := fun G => (wI G 64 _ (by omega)).trans m1
    have w65 : ∀ G, mI (wF N 69 G) 65 (10 * j + pre.length) = nI c.2.1 := fun G => (wI G 65 _ (by omega)).trans m2
    have e2 : cl = (pre ++ [c]) ++ l := by rw [e]; simp
    have nxt : ∀ (acc : Int32) (G : Nat → Int32), ∃ G2, gX12_sum_10 (m + l.length + 1) (wF N 69 G) 55 (nI p) (nI c0) acc (nI pre.length + 1) = some (lsum (aF (hM N) p c0) l acc, wF N 69 G2) := by
      intro acc G
      obtain ⟨G2, g2⟩ := ih (pre ++ [c]) m acc G e2
      rw [List.length_append] at g2
      exact ⟨G2, by rw [nI_1]; exact g2⟩
    rw [List.length_cons, show m + (l.length + 1) + 1 = (m + l.length + 1) + 1 by omega, gX12_sum_10_s, k_55 (hSG G), ck_t, e15 G, if_neg jm1, r_55_16 (hSG G), rb_s, k_63 (hSG G), ck_t, g_63 (hSG G), inb_n j6 (by decide), ck_t, tn (show j < 1000000 by omega), e63 G, if_neg (by rw [leL (by omega) (by omega)]; omega), r_55_17 (hSG G), rb_s, k_64 (hSG G), ck_t, g_64 (hSG G), eix, ik, ck_t, tk, w64 G]
    unfold gX12_sum_97
    show ∃ G2, _ = some (lsum (aF (hM N) p c0) l (lstep (aF (hM N) p c0) acc c), wF N 69 G2)
    by_cases c2 : c.1 = 2
    · have els : lstep (aF (hM N) p c0) acc c = acc := by
        unfold lstep
        rw [if_neg (by omega), if_neg (by omega)]
      rw [c2, if_pos (by decide), els]
      exact nxt acc G
    · have mv : MV N (10 * j + pre.length) bg c.2.2 := ⟨hS, hx, by omega, m4, m5, m6, o3⟩
      obtain ⟨G1, t1⟩ := m_true mv hp hc (o4 (by omega)) G
      rw [if_neg (by rw [show (2 : Int32) = nI 2 from rfl, leL (by omega) (by omega)]; omega), t1, bd_s]
      by_cases v : vlx (aF (hM N) p c0) c.2.2 = true
      · rw [b2_t v, if_neg n10, k_55 (hSG G1), ck_t, r_55_17 (hSG G1), rb_s, k_64 (hSG G1), ck_t, g_64 (hSG G1), ik, ck_t, w64 G1]
        unfold gX12_sum_95 gX12_sum_97 lstep
        rw [v, if_pos rfl]
        by_cases c0' : c.1 = 0
        · rw [c0', if_pos (by decide), r_55_18 (hSG G1), rb_s, k_65 (hSG G1), ck_t, g_65 (hSG G1), ik, ck_t, w65 G1, if_pos rfl]
          exact nxt _ G1
        · have c1' : c.1 = 1 := by omega
          rw [c1', if_neg (by decide), r_55_18 (hSG G1), rb_s, k_65 (hSG G1), ck_t, g_65 (hSG G1), ik, ck_t, w65 G1, if_neg (by decide), if_pos rfl, Int32.sub_eq_add_neg]
          exact nxt _ G1
      · have els : lstep (aF (hM N) p c0) acc c = acc := by
          unfold lstep
          rw [if_neg v]
          by_cases c0' : c.1 = 0
          · rw [if_pos c0', Int32.add_zero]
          · rw [if_neg c0', if_pos (by omega), Int32.sub_zero]
        rw [b2_f v, if_pos rfl, els]
        exact nxt acc G1
theorem m_baldL {N : Mem} {j cd : Nat} {cl : List Cl} (hS : Sh N) (hj : mI N 55 15 = nI j) (h : MLw N j cl cd) : ∀ (l pre : List Cl) (m : Nat) (acc : Int32), cl = pre ++ l → gX12_baldFrom_5 (m + l.length + 1) N 55 acc (nI pre.length) = some (clsB acc l, N) := by
  obtain ⟨j6, l10, hcd, h63, hcl, hok⟩ := h
  have jm1 : ¬ nI j = -1 := m1_ne (by omega)
  intro l
  induction l with
  | nil =>
    intro pre m acc e
    have e' : cl = pre := by rw [e, List.append_nil]
    rw [gX12_baldFrom_5_s, k_55 hS, ck_t, hj, if_neg jm1, r_55_16 hS, rb_s, k_63 hS, ck_t, g_63 hS, inb_n j6 (by decide), ck_t, tn (show j < 1000000 by omega), h63, e', if_pos (Int32.le_refl _)]
    rfl
  | cons c l ih =>
    intro pre m acc e
    have hl : pre.length < cl.length := by
      rw [e, List.length_append, List.length_cons]
      omega
    have hmc := hcl pre.length c (getE_cons e)
    have ok := hok c (by rw [e]; exact List.mem_append_right _ List.mem_cons_self)
    obtain ⟨m1, m2, bg, m3, m4, m5, m6⟩ := hmc
    obtain ⟨o1, o2, o3, o4, o5⟩ := id ok
    have eix : 10 * nI j + nI pre.length = nI (10 * j + pre.length) := by rw [show (10 : Int32) = nI 10 from rfl, pk_mul, nI_add]
    have hx : 10 * j + pre.length < 61 := by omega
    have ik := inb_n hx (by decide : 61 < 1000000)
    have tk := tn (show 10 * j + pre.length < 1000000 by omega)
    have e2 : cl = (pre ++ [c]) ++ l := by rw [e]; simp
    have nxt : ∀ acc : Int32, gX12_baldFrom_5 (m + l.length + 1) N 55 acc (nI pre.length + 1) = some (clsB acc l, N) := by
      intro acc
      have g2 := ih (pre ++ [c]) m acc e2
      rw [List.length_append] at g2
      rw [nI_1]
      exact g2
    rw [List.length_cons, show m + (l.length + 1) + 1 = (m + l.length + 1) + 1 by omega, gX12_baldFrom_5_s, k_55 hS, ck_t, hj, if_neg jm1, r_55_16 hS, rb_s, k_63 hS, ck_t, g_63 hS, inb_n j6 (by decide), ck_t, tn (show j < 1000000 by omega), h63, if_neg (by rw [leL (by omega) (by omega)]; omega), r_55_17 hS, rb_s, k_64 hS, ck_t, g_64 hS, eix, ik, ck_t, tk, m1]
    unfold gX12_baldFrom_59
    show _ = some (clsB (clB acc c) l, N)
    unfold clB
    by_cases c2 : c.1 = 2
    · rw [c2, if_pos (by decide), r_55_18 hS, rb_s, k_65 hS, ck_t, g_65 hS, ik, ck_t, m2, if_pos rfl]
      exact nxt _
    · rw [if_neg (by rw [show (2 : Int32) = nI 2 from rfl, eqL (by omega) (by omega)]; exact c2), if_neg c2]
      exact nxt _
theorem m_lawOf {N : Mem} {j cd : Nat} {cl : List Cl} (hS : Sh N) (hj : mI N 55 15 = nI j) (h : MLw N j cl cd) : fX12_baldFrom N 55 = some (clsB 95 cl, N) ∧ ∀ p c, p < 6 → c < 25 → ∃ G, fX12_sum N 55 (nI p) (nI c) = some (aSum (fun F => lsum F cl 0) (hM N) p c, wF N 69 G) := by
  have hl := h.2.1
  obtain ⟨m, hm⟩ := FUs cl.length (by omega)
  constructor
  · have := m_baldL hS hj h cl [] m 95 rfl
    rw [← hm] at this
    exact this
  · intro p c hp hc
    obtain ⟨G2, u⟩ := m_sumL hS hj h hp hc cl [] m (hM N 0 c) (mI N 69) rfl
    rw [wF_self, ← hm] at u
    refine ⟨G2, ?_⟩
    have u' : gX12_sum_10 FU N 55 (nI p) (nI c) (hM N 0 c) 0 = some (lsum (aF (hM N) p c) cl (hM N 0 c), wF N 69 G2) := u
    have e1 : lsum (aF (hM N) p c) cl (hM N 0 c) = aSum (fun F => lsum F cl 0) (hM N) p c := by
      show _ = hM N 0 c + lsum (aF (hM N) p c) cl 0
      rw [← lsum_add, Int32.add_zero]
    unfold fX12_sum
    rw [k_55 hS, ck_t, r_55_0 hS, rb_s, k_56 hS, ck_t, g_56 hS, inb_n hc (by decide), ck_t, tn (show c < 1000000 by omega), hM_0 hc, u', e1]
