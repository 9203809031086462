/-! ===== by how few steps ===== -/
def rs (bd : Int32) (H : Hall) (pl : Nat) : Nat → Nat → Bool
  | 0, c => decide (c = pl)
  | k + 1, c => rs bd H pl k c || (decide (H 0 c < bd) && (List.range 25).any fun e => rs bd H pl k e && (List.range 4).any fun w => decide (nxt (nI e) (nI w) = nI c))
theorem rs_s {bd : Int32} {H : Hall} {pl k c : Nat} : rs bd H pl (k + 1) c = true ↔ rs bd H pl k c = true ∨ (H 0 c < bd ∧ ∃ e w, e < 25 ∧ w < 4 ∧ rs bd H pl k e = true ∧ nxt (nI e) (nI w) = nI c) := by
  show (rs bd H pl k c || (decide (H 0 c < bd) && (List.range 25).any fun e => rs bd H pl k e && (List.range 4).any fun w => decide (nxt (nI e) (nI w) = nI c))) = true ↔ _
  rw [Bool.or_eq_true, Bool.and_eq_true, decide_eq_true_eq, List.any_eq_true]
  constructor
  · rintro (h | ⟨h1, e, he, h2⟩)
    · exact Or.inl h
    · rw [Bool.and_eq_true, List.any_eq_true] at h2
      obtain ⟨h3, w, hw, h4⟩ := h2
      exact Or.inr ⟨h1, e, w, List.mem_range.mp he, List.mem_range.mp hw, h3, of_decide_eq_true h4⟩
  · rintro (h | ⟨h1, e, w, he, hw, h2, h3⟩)
    · exact Or.inl h
    · refine Or.inr ⟨h1, e, List.mem_range.mpr he, ?_⟩
      rw [Bool.and_eq_true, List.any_eq_true]
      exact ⟨h2, w, List.mem_range.mpr hw, decide_eq_true h3⟩
theorem rs_le {bd : Int32} {H : Hall} {pl c : Nat} : ∀ (d k : Nat), rs bd H pl k c = true → rs bd H pl (k + d) c = true := by
  intro d
  induction d with
  | zero => intro k h; exact h
  | succ d ih => intro k h; exact rs_s.mpr (Or.inl (ih k h))
theorem rs_mono {bd : Int32} {H : Hall} {pl c j k : Nat} (h : j ≤ k) (hr : rs bd H pl j c = true) : rs bd H pl k c = true := by
  have := rs_le (k - j) j hr
  rwa [show j + (k - j) = k by omega] at this
/-- no more comes: no more will -/
theorem rs_stop {bd : Int32} {H : Hall} {pl k : Nat} (h : ∀ x, x < 25 → rs bd H pl (k + 1) x = true → rs bd H pl k x = true) : ∀ (d x : Nat), x < 25 → rs bd H pl (k + d) x = true → rs bd H pl k x = true := by
  intro d
  induction d with
  | zero => intro x _ hr; exact hr
  | succ d ih =>
    intro x hx hr
    rcases rs_s.mp hr with g | ⟨g1, e, w, he, hw, g2, g3⟩
    · exact ih x hx g
    · exact h x hx (rs_s.mpr (Or.inr ⟨g1, e, w, he, hw, ih e he g2, g3⟩))
theorem countP_lt {p q : Nat → Bool} : ∀ (l : List Nat), (∀ x, x ∈ l → p x = true → q x = true) → (∃ x, x ∈ l ∧ q x = true ∧ ¬ p x = true) → l.countP p < l.countP q := by
  intro l
  induction l with
  | nil => rintro _ ⟨x, hx, -⟩; cases hx
  | cons a l ih =>
    rintro h ⟨x, hx, h1, h2⟩
    have hle : l.countP p ≤ l.countP q := List.countP_mono_left (fun y hy => h y (List.mem_cons_of_mem _ hy))
    rw [List.countP_cons, List.countP_cons]
    rcases List.mem_cons.mp hx with rfl | hx
    · rw [if_neg h2, if_pos h1]
      omega
    · have := ih (fun y hy => h y (List.mem_cons_of_mem _ hy)) ⟨x, hx, h1, h2⟩
      by_cases ha : p a = true
      · rw [if_pos ha, if_pos (h a List.mem_cons_self ha)]
        omega
      · rw [if_neg ha]
        split <;> omega
theorem rs_24 {bd : Int32} {H : Hall} {pl c : Nat} (hp : pl < 25) (hc : c < 25) (h : rs bd H pl 25 c = true) : rs bd H pl 24 c = true := by
  apply Classical.byContradiction
  intro hn
  have grow : ∀ k, k ≤ 24 → ∃ x, x ∈ List.range 25 ∧ rs bd H pl (k + 1) x = true ∧ ¬ rs bd H pl k x = true := by
    intro k hk
    apply Classical.byContradiction
    intro hh
    have st : ∀ x, x < 25 → rs bd H pl (k + 1) x = true → rs bd H pl k x = true := by
      intro x hx hr
      apply Classical.byContradiction
      intro g
      exact hh ⟨x, List.mem_range.mpr hx, hr, g⟩
    have := rs_stop st (25 - k) c hc (by rw [show k + (25 - k) = 25 by omega]; exact h)
    exact hn (rs_mono hk this)
  have big : ∀ k, k ≤ 25 → k + 1 ≤ (List.range 25).countP (rs bd H pl k) := by
    intro k
    induction k with
    | zero =>
      intro _
      apply List.countP_pos_iff.mpr
      exact ⟨pl, List.mem_range.mpr hp, by simp [rs]⟩
    | succ k ih =>
      intro hk
      have := countP_lt (p := rs bd H pl k) (q := rs bd H pl (k + 1)) (List.range 25) (fun x _ hx => rs_mono (by omega) hx) (grow k (by omega))
      have := ih (by omega)
      omega
  have h1 := big 25 (Nat.le_refl _)
  have h2 : (List.range 25).countP (rs bd H pl 25) ≤ (List.range 25).length := List.countP_le_length
  rw [List.length_range] at h2
  omega
/-- the first time -/
def aFirst (bd : Int32) (H : Hall) (pl c : Nat) : Nat → Nat → Int32
  | 0, _ => -5
  | n + 1, i => if rs bd H pl i c = true then nI i else aFirst bd H pl c n (i + 1)
theorem aFirst_at {bd : Int32} {H : Hall} {pl c k : Nat} (hk : rs bd H pl k c = true) (hl : ∀ j, j < k → ¬ rs bd H pl j c = true) : ∀ (n i : Nat), i ≤ k → k < i + n → aFirst bd H pl c n i = nI k := by
  intro n
  induction n with
  | zero => intro i h1 h2; omega
  | succ n ih =>
    intro i h1 h2
    unfold aFirst
    by_cases e : i = k
    · subst e
      rw [if_pos hk]
    · rw [if_neg (hl i (by omega))]
      exact ih (i + 1) (by omega) (by omega)
theorem aFirst_no {bd : Int32} {H : Hall} {pl c m : Nat} (h : ¬ rs bd H pl m c = true) : ∀ (n i : Nat), i + n ≤ m + 1 → aFirst bd H pl c n i = -5 := by
  intro n
  induction n with
  | zero => intro i _; rfl
  | succ n ih =>
    intro i hi
    unfold aFirst
    rw [if_neg (fun g => h (rs_mono (by omega) g))]
    exact ih (i + 1) (by omega)
/-! ===== the model's rounds ===== -/
def fW (bd : Int32) (H : Hall) (n c : Nat) : Nat → Nat → (Nat → Int32) → Nat → Int32
  | 0, _, F => F
  | k + 1, w, F => if F c = nI n then (if nxt (nI c) (nI w) = -1 then fW bd H n c k (w + 1) F else if F (nxt (nI c) (nI w)).toNatClampNeg = -5 then (if H 0 (nxt (nI c) (nI w)).toNatClampNeg < bd then fW bd H n c k (w + 1) (upd F (nxt (nI c) (nI w)).toNatClampNeg (nI (n + 1))) else fW bd H n c k (w + 1) F) else fW bd H n c k (w + 1) F) else F
def fC (bd : Int32) (H : Hall) (n : Nat) : Nat → Nat → (Nat → Int32) → Nat → Int32
  | 0, _, F => F
  | k + 1, c, F => fC bd H n k (c + 1) (fW bd H n c 4 0 F)
def fN (bd : Int32) (H : Hall) : Nat → Nat → (Nat → Int32) → Nat → Int32
  | 0, _, F => F
  | k + 1, n, F => fN bd H k (n + 1) (fC bd H n 25 0 F)
theorem p_fW {M : Mem} {n c : Nat} {to : Int32} {lw : Law} {bd : Int32} {K38 : Mem → Nat → Int32 → Int32 → Option (Int32 × Mem)} {K47 : Mem → Nat → Int32 → Int32 → Int32 → Option (Int32 × Mem)} (h : Sh M) (hq : Mq M lw bd) (hc : c < 25) : ∀ (k m w : Nat) (F : Nat → Int32), w + k = 4 → gX12_steps_57 K38 K47 (m + k + 1) (wF M 81 F) 55 to (nI n) (nI c) (nI w) = K47 (wF M 81 (fW bd (hM M) n c k w F)) 55 to (nI n) (nI (c + 1)) := by
  intro k
  induction k with
  | zero =>
    intro m w F hw
    have : w = 4 := by omega
    subst this
    rw [gX12_steps_57_s, if_pos (by decide)]
    unfold gX12_steps_126
    rw [nI_1]
    rfl
  | succ k ih =>
    intro m w F hw
    have f1 : ∀ F, Qm M (wF M 81 F) := fun F => Qm_81 (by omega)
    have eF : ∀ F i, mI (wF M 81 F) 81 i = F i := fun F i => by rw [mI_wF, if_pos rfl]
    rw [show m + (k + 1) + 1 = (m + k + 1) + 1 by omega, gX12_steps_57_s, if_neg (ge4 (by omega))]
    simp only [isK_wF, mR_wF, mG_wF, k_55 h, r_55_40 h, k_81 h, g_81 h, ck_t, rb_s, inb_n hc (by decide : 25 < 1000000), tn (show c < 1000000 by omega), eF, p_mnext hc (show w < 4 by omega), bd_s]
    unfold fW
    by_cases e1 : F c = nI n
    · rw [if_pos e1, if_pos e1]
      rcases nxt_in c hc w (by omega) with hx | ⟨d, hd, hdc, hx⟩
      · rw [hx, if_pos rfl, if_pos rfl]
        unfold gX12_steps_120
        rw [nI_1]
        exact ih m (w + 1) F (by omega)
      · rw [hx, if_neg (m1_ne (by omega)), if_neg (m1_ne (by omega))]
        have hS2 : Sh (wF M 81 F) := Sh_1 rfl h
        have hq2 : Mq (wF M 81 F) lw bd := Sm_Mq (Qm_Sm (f1 F)) hq
        simp only [inb_n hd (by decide : 25 < 1000000), tn (show d < 1000000 by omega), ck_t]
        by_cases e2 : F d = -5
        · rw [if_pos e2, if_pos e2, p_mbald hS2 hq2 hd, bd_s, Qm_hM (f1 F)]
          by_cases e3 : hM M 0 d < bd
          · rw [if_pos e3, if_pos rfl, if_pos e3, isK_wF, k_55 h, ck_t, mR_wF, r_55_40 h, rb_s, isK_wF, k_81 h, ck_t, mG_wF, g_81 h, inb_n hd (by decide : 25 < 1000000), ck_t, nI_1, stI_wF]
            unfold gX12_steps_120
            rw [nI_1]
            exact ih m (w + 1) _ (by omega)
          · rw [if_neg e3, if_neg (by decide), if_neg e3]
            unfold gX12_steps_120
            rw [nI_1]
            exact ih m (w + 1) F (by omega)
        · rw [if_neg e2, if_neg e2]
          unfold gX12_steps_120
          rw [nI_1]
          exact ih m (w + 1) F (by omega)
    · rw [if_neg e1, if_neg e1]
      unfold gX12_steps_126
      rw [nI_1]
theorem p_fC {M : Mem} {n : Nat} {to : Int32} {lw : Law} {bd : Int32} {K38 : Mem → Nat → Int32 → Int32 → Option (Int32 × Mem)} (h : Sh M) (hq : Mq M lw bd) : ∀ (k m c : Nat) (F : Nat → Int32), c + k = 25 → gX12_steps_47 K38 (m + k + 1) (wF M 81 F) 55 to (nI n) (nI c) = K38 (wF M 81 (fC bd (hM M) n k c F)) 55 to (nI (n + 1)) := by
  intro k
  induction k with
  | zero =>
    intro m c F hc
    have : c = 25 := by omega
    subst this
    rw [gX12_steps_47_s, if_pos (by decide), nI_1]
    rfl
  | succ k ih =>
    intro m c F hc
    obtain ⟨m', hm'⟩ := FUs 4 (by decide)
    rw [show m + (k + 1) + 1 = (m + k + 1) + 1 by omega, gX12_steps_47_s, if_neg (ge25 (by omega)), hm', show (0 : Int32) = nI 0 from rfl, p_fW (K47 := gX12_steps_47 K38 (m + k + 1)) h hq (by omega) 4 m' 0 F rfl]
    exact ih m (c + 1) _ (by omega)
theorem p_fN {M : Mem} {c : Nat} {lw : Law} {bd : Int32} (h : Sh M) (hq : Mq M lw bd) (hc : c < 25) : ∀ (k m n : Nat) (F : Nat → Int32), n + k = 25 → gX12_steps_38 (m + k + 1) (wF M 81 F) 55 (nI c) (nI n) = some (fN bd (hM M) k n F c, wF M 81 (fN bd (hM M) k n F)) := by
  intro k
  induction k with
  | zero =>
    intro m n F hn
    have : n = 25 := by omega
    subst this
    rw [gX12_steps_38_s, if_pos (by decide)]
    simp only [isK_wF, mR_wF, mG_wF, k_55 h, r_55_40 h, k_81 h, g_81 h, ck_t, rb_s, inb_n hc (by decide : 25 < 1000000), tn (show c < 1000000 by omega)]
    rw [mI_wF, if_pos rfl]
    rfl
  | succ k ih =>
    intro m n F hn
    obtain ⟨m', hm'⟩ := FUs 25 (by decide)
    rw [show m + (k + 1) + 1 = (m + k + 1) + 1 by omega, gX12_steps_38_s, if_neg (ge25 (by omega)), hm', show (0 : Int32) = nI 0 from rfl, p_fC (K38 := gX12_steps_38 (m + k + 1)) h hq 25 m' 0 F rfl]
    exact ih m (n + 1) _ (by omega)
theorem p_fI {M : Mem} {p c pl : Nat} (h : Sh M) (hp : p < 6) (epl : hM M 3 p = nI pl) (hpl : pl < 25) : ∀ (k m i : Nat) (F : Nat → Int32), i + k = 25 → (∀ j, j < i → F j = if j = pl then 0 else -5) → ∃ G, gX12_steps_2 (m + k + 1) (wF M 81 F) 55 (nI p) (nI c) (nI i) = gX12_steps_38 FU (wF M 81 G) 55 (nI c) 0 ∧ ∀ j, j < 25 → G j = if j = pl then 0 else -5 := by
  intro k
  induction k with
  | zero =>
    intro m i F hi hF
    have : i = 25 := by omega
    subst this
    refine ⟨F, ?_, hF⟩
    rw [gX12_steps_2_s, if_pos (by decide)]
  | succ k ih =>
    intro m i F hi hF
    have e3 : mI (wF M 81 F) 59 p = nI pl := by
      rw [mI_wF, if_neg (by omega), hM_3 hp]
      exact epl
    rw [show m + (k + 1) + 1 = (m + k + 1) + 1 by omega, gX12_steps_2_s, if_neg (ge25 (by omega))]
    simp only [isK_wF, mR_wF, mG_wF, k_55 h, r_55_40 h, r_55_4 h, k_59 h, g_59 h, ck_t, rb_s, inb_n hp (by decide : 6 < 1000000), tn (show p < 1000000 by omega), e3]
    unfold gX12_steps_29
    simp only [isK_wF, mG_wF, k_81 h, g_81 h, ck_t, inb_n (show i < 25 by omega) (by decide : 25 < 1000000), tn (show i < 1000000 by omega), stI_wF, nI_1]
    by_cases e : i = pl
    · rw [if_pos (by rw [e])]
      refine ih m (i + 1) _ (by omega) (fun j hj => ?_)
      unfold upd
      by_cases ej : j = i
      · rw [if_pos ej, if_pos (by omega)]
      · rw [if_neg ej]
        exact hF j (by omega)
    · rw [if_neg (by rw [eqL (by omega) (by omega)]; exact e)]
      refine ih m (i + 1) _ (by omega) (fun j hj => ?_)
      unfold upd
      by_cases ej : j = i
      · rw [if_pos ej, if_neg (by omega)]
      · rw [if_neg ej]
        exact hF j (by omega)
/-! ===== they are the same ===== -/
def Fdd (bd : Int32) (H : Hall) (pl n : Nat) (F : Nat → Int32) : Prop := ∀ d, d < 25 → (∃ k, k ≤ n ∧ F d = nI k ∧ rs bd H pl k d = true ∧ ∀ j, j < k → ¬ rs bd H pl j d = true) ∨ (F d = -5 ∧ ¬ rs bd H pl n d = true)
def Fd2 (bd : Int32) (H : Hall) (pl n c w : Nat) (F : Nat → Int32) : Prop := ∀ d, d < 25 → (∃ k, k ≤ n ∧ F d = nI k ∧ rs bd H pl k d = true ∧ ∀ j, j < k → ¬ rs bd H pl j d = true) ∨ (F d = nI (n + 1) ∧ rs bd H pl (n + 1) d = true ∧ ¬ rs bd H pl n d = true) ∨ (F d = -5 ∧ ¬ rs bd H pl n d = true ∧ ∀ e v, e < 25 → v < 4 → (e < c ∨ (e = c ∧ v < w)) → rs bd H pl n e = true → nxt (nI e) (nI v) = nI d → ¬ H 0 d < bd)
theorem Fd2_c {bd : Int32} {H : Hall} {pl n c : Nat} {F : Nat → Int32} (h : Fd2 bd H pl n c 4 F) : Fd2 bd H pl n (c + 1) 0 F := by
  intro d hd
  rcases h d hd with h | h | ⟨h1, h2, h3⟩
  · exact Or.inl h
  · exact Or.inr (Or.inl h)
  · exact Or.inr (Or.inr ⟨h1, h2, fun e v he hv hh => h3 e v he hv (by omega)⟩)
/-- a cell that is not of this round has nothing to add -/
theorem Fd2_skip {bd : Int32} {H : Hall} {pl n c w : Nat} {F : Nat → Int32} (h : Fd2 bd H pl n c w F) (hc : c < 25) (hn : n < 1000) (e : ¬ F c = nI n) : Fd2 bd H pl n c 4 F := by
  intro d hd
  rcases h d hd with g | g | ⟨g1, g2, g3⟩
  · exact Or.inl g
  · exact Or.inr (Or.inl g)
  · refine Or.inr (Or.inr ⟨g1, g2, fun e' v he hv hh hr hx ho => ?_⟩)
    by_cases ec : e' = c
    · subst ec
      rcases h e' he with ⟨k, k1, k2, k3, -⟩ | ⟨k1, k2, k3⟩ | ⟨k1, k2, -⟩
      · have : k ≠ n := fun hk => e (by rw [k2, hk])
        exact g2 (rs_mono (show k + 1 ≤ n by omega) (rs_s.mpr (Or.inr ⟨ho, e', v, he, hv, k3, hx⟩)))
      · exact k3 hr
      · exact k2 hr
    · exact g3 e' v he hv (by omega) hr hx ho
theorem Fd2_w {bd : Int32} {H : Hall} {pl n c : Nat} (hc : c < 25) (hn : n < 1000) : ∀ (k w : Nat) (F : Nat → Int32), w + k = 4 → Fd2 bd H pl n c w F → Fd2 bd H pl n c 4 (fW bd H n c k w F) := by
  intro k
  induction k with
  | zero =>
    intro w F hw h
    have : w = 4 := by omega
    subst this
    exact h
  | succ k ih =>
    intro w F hw h
    unfold fW
    by_cases e1 : F c = nI n
    · rw [if_pos e1]
      have rc : rs bd H pl n c = true := by
        rcases h c hc with ⟨j, j1, j2, j3, -⟩ | ⟨j1, -⟩ | ⟨j1, -⟩
        · exact rs_mono j1 j3
        · exfalso
          rw [e1, eqL (by omega) (by omega)] at j1
          omega
        · exact absurd (e1.symm.trans j1) (ne_m5 (by omega))
      rcases nxt_in c hc w (by omega) with hx | ⟨d, hd, hdc, hx⟩
      · rw [hx, if_pos rfl]
        refine ih (w + 1) F (by omega) (fun d hd => ?_)
        rcases h d hd with g | g | ⟨g1, g2, g3⟩
        · exact Or.inl g
        · exact Or.inr (Or.inl g)
        · refine Or.inr (Or.inr ⟨g1, g2, fun e' v he hv hh hr hx2 => ?_⟩)
          by_cases ev : e' = c ∧ v = w
          · rw [ev.1, ev.2, hx] at hx2
            exact absurd hx2.symm (m1_ne (by omega))
          · exact g3 e' v he hv (by omega) hr hx2
      · rw [hx, if_neg (m1_ne (by omega)), tn (show d < 1000000 by omega)]
        have next : ∀ G : Nat → Int32, Fd2 bd H pl n c w G → (G d = -5 → ¬ H 0 d < bd) → Fd2 bd H pl n c (w + 1) G := by
          intro G hG hd5 d' hd'
          rcases hG d' hd' with g | g | ⟨g1, g2, g3⟩
          · exact Or.inl g
          · exact Or.inr (Or.inl g)
          · refine Or.inr (Or.inr ⟨g1, g2, fun e' v he hv hh hr hx2 => ?_⟩)
            by_cases ev : e' = c ∧ v = w
            · rw [ev.1, ev.2, hx, eqL (by omega) (by omega)] at hx2
              subst hx2
              exact hd5 g1
            · exact g3 e' v he hv (by omega) hr hx2
        by_cases e2 : F d = -5
        · rw [if_pos e2]
          by_cases e3 : H 0 d < bd
          · rw [if_pos e3]
            refine ih (w + 1) _ (by omega) (next _ (fun d' hd' => ?_) (fun g => ?_))
            · unfold upd
              by_cases ed : d' = d
              · rw [if_pos ed, ed]
                have nr : ¬ rs bd H pl n d = true := by
                  rcases h d hd with ⟨j, j1, j2, -⟩ | ⟨j1, -⟩ | ⟨j1, j2, -⟩
                  · exact absurd (j2.symm.trans e2) (ne_m5 (by omega))
                  · exact absurd (j1.symm.trans e2) (ne_m5 (by omega))
                  · exact j2
                exact Or.inr (Or.inl ⟨rfl, rs_s.mpr (Or.inr ⟨e3, c, w, hc, by omega, rc, hx⟩), nr⟩)
              · rw [if_neg ed]
                exact h d' hd'
            · unfold upd at g
              rw [if_pos rfl] at g
              exact absurd g (ne_m5 (by omega))
          · rw [if_neg e3]
            exact ih (w + 1) F (by omega) (next F h (fun _ => e3))
        · rw [if_neg e2]
          exact ih (w + 1) F (by omega) (next F h (fun g => absurd g e2))
    · rw [if_neg e1]
      exact Fd2_skip h hc hn e1
theorem Fd2_cc {bd : Int32} {H : Hall} {pl n : Nat} (hn : n < 1000) : ∀ (k c : Nat) (F : Nat → Int32), c + k = 25 → Fd2 bd H pl n c 0 F → Fd2 bd H pl n 25 0 (fC bd H n k c F) := by
  intro k
  induction k with
  | zero =>
    intro c F hc h
    have : c = 25 := by omega
    subst this
    exact h
  | succ k ih =>
    intro c F hc h
    exact ih (c + 1) _ (by omega) (Fd2_c (Fd2_w (by omega) hn 4 0 F rfl h))
theorem Fdd_n {bd : Int32} {H : Hall} {pl : Nat} : ∀ (k n : Nat) (F : Nat → Int32), n + k = 25 → Fdd bd H pl n F → Fdd bd H pl 25 (fN bd H k n F) := by
  intro k
  induction k with
  | zero =>
    intro n F hn h
    have : n = 25 := by omega
    subst this
    exact h
  | succ k ih =>
    intro n F hn h
    refine ih (n + 1) _ (by omega) ?_
    have h0 : Fd2 bd H pl n 0 0 F := by
      intro d hd
      rcases h d hd with g | ⟨g1, g2⟩
      · exact Or.inl g
      · exact Or.inr (Or.inr ⟨g1, g2, fun e v _ _ hh => by omega⟩)
    have h1 := Fd2_cc (by omega) 25 0 F rfl h0
    intro d hd
    rcases h1 d hd with ⟨j, j1, j2⟩ | ⟨g1, g2, g3⟩ | ⟨g1, g2, g3⟩
    · exact Or.inl ⟨j, by omega, j2⟩
    · exact Or.inl ⟨n + 1, Nat.le_refl _, g1, g2, fun j hj hr => g3 (rs_mono (by omega) hr)⟩
    · refine Or.inr ⟨g1, fun hr => ?_⟩
      rcases rs_s.mp hr with q | ⟨q1, e, v, he, hv, q2, q3⟩
      · exact g2 q
      · exact g3 e v he hv (by omega) q2 q3 q1
theorem p_msteps {M : Mem} {p c pl : Nat} {lw : Law} {bd : Int32} (h : Sh M) (hq : Mq M lw bd) (hp : p < 6) (hc : c < 25) (epl : hM M 3 p = nI pl) (hpl : pl < 25) : ∃ P, fX12_steps M 55 (nI p) (nI c) = some (aFirst bd (hM M) pl c 25 0, P) ∧ Qm M P := by
  obtain ⟨m, hm⟩ := FUs 25 (by decide)
  obtain ⟨G, g1, g2⟩ := p_fI (c := c) h hp epl hpl 25 m 0 (mI M 81) rfl (fun j hj => by omega)
  rw [wF_self, ← hm] at g1
  have g3 := p_fN h hq hc 25 m 0 G rfl
  rw [← hm] at g3
  refine ⟨_, ?_, Qm_81 (a := 81) (F := fN bd (hM M) 25 0 G) (by omega)⟩
  have f0 : Fdd bd (hM M) pl 0 G := by
    intro d hd
    rw [g2 d hd]
    by_cases e : d = pl
    · rw [if_pos e]
      exact Or.inl ⟨0, Nat.le_refl _, rfl, by simp [rs, e], fun j hj => by omega⟩
    · rw [if_neg e]
      exact Or.inr ⟨rfl, by simp [rs, e]⟩
  show gX12_steps_2 FU M 55 (nI p) (nI c) (nI 0) = _
  rw [g1]
  show gX12_steps_38 FU (wF M 81 G) 55 (nI c) (nI 0) = _
  rw [g3]
  have e : fN bd (hM M) 25 0 G c = aFirst bd (hM M) pl c 25 0 := by
    rcases Fdd_n 25 0 G rfl f0 c hc with ⟨k, k1, k2, k3, k4⟩ | ⟨k1, k2⟩
    · have k24 : k ≤ 24 := by
        apply Classical.byContradiction
        intro hh
        have : k = 25 := by omega
        subst this
        exact k4 24 (by omega) (rs_24 hpl hc k3)
      rw [k2, aFirst_at k3 k4 25 0 (by omega) (by omega)]
    · rw [k1, aFirst_no (m := 25) k2 25 0 (by omega)]
  rw [e]
