/-! ===== model: the hall ===== -/
def Fm (M N : Mem) : Prop := N.1 = M.1 ∧ N.2.2 = M.2.2 ∧ (∀ a, a < 55 ∨ (62 ≤ a ∧ a ≠ 69) → N.2.1 a = M.2.1 a) ∧ ∀ f, f ≠ 7 → mI N 55 f = mI M 55 f
theorem Fm_r {M : Mem} : Fm M M := ⟨rfl, rfl, fun _ _ => rfl, fun _ _ => rfl⟩
theorem Fm_t {M N P : Mem} (h : Fm M N) (k : Fm N P) : Fm M P := ⟨k.1.trans h.1, k.2.1.trans h.2.1, fun a ha => (k.2.2.1 a ha).trans (h.2.2.1 a ha), fun f hf => (k.2.2.2 f hf).trans (h.2.2.2 f hf)⟩
theorem Fm_wF {M : Mem} {a : Nat} {F : Nat → Int32} (h : (56 ≤ a ∧ a < 62) ∨ a = 69) : Fm M (wF M a F) := ⟨rfl, rfl, fun b hb => va_up_ne _ _ (by omega), fun f _ => by rw [mI_wF, if_neg (by omega)]⟩
theorem Fm_stI {M : Mem} {a i : Nat} {x : Int32} (h : (56 ≤ a ∧ a < 62) ∨ a = 69) : Fm M (stI M a i x) := by
  rw [stI_row_eq]
  exact Fm_wF h
theorem Fm_hour {M : Mem} {x : Int32} : Fm M (stI M 55 7 x) := by
  refine ⟨rfl, rfl, fun b hb => ?_, fun f hf => by rw [mI_stI, if_neg (by omega)]⟩
  rw [stI_row_eq]
  exact va_up_ne _ _ (by omega)
def Sm (M N : Mem) : Prop := N.1 = M.1 ∧ mI N 55 15 = mI M 55 15 ∧ ∀ a, 63 ≤ a ∧ a ≤ 68 → N.2.1 a = M.2.1 a
def Mq (M : Mem) (lw : Law) (bd : Int32) : Prop := Law6 lw ∧ ∀ N, Sm M N → fX12_baldFrom N 55 = some (bd, N) ∧ ∀ p c, p < 6 → c < 25 → ∃ G, fX12_sum N 55 (nI p) (nI c) = some (aSum lw (hM N) p c, wF N 69 G)
theorem Sm_r {M : Mem} : Sm M M := ⟨rfl, rfl, fun _ _ => rfl⟩
theorem Sm_t {M N P : Mem} (h : Sm M N) (k : Sm N P) : Sm M P := ⟨k.1.trans h.1, k.2.1.trans h.2.1, fun a ha => (k.2.2 a ha).trans (h.2.2 a ha)⟩
theorem Sm_Mq {M N : Mem} {lw : Law} {bd : Int32} (h : Sm M N) (hq : Mq M lw bd) : Mq N lw bd := ⟨hq.1, fun P k => hq.2 P (Sm_t h k)⟩
theorem Fm_Sm {M N : Mem} (h : Fm M N) : Sm M N := ⟨h.1, h.2.2.2 15 (by decide), fun a ha => h.2.2.1 a (by omega)⟩
theorem Fm_Mq {M N : Mem} {lw : Law} {bd : Int32} (h : Fm M N) (hq : Mq M lw bd) : Mq N lw bd := Sm_Mq (Fm_Sm h) hq
theorem Fm_Sh {M N : Mem} (h : Fm M N) (k : Sh M) : Sh N := Sh_1 h.1 k
theorem hM_0 {M : Mem} {c : Nat} (h : c < 25) : mI M 56 c = hM M 0 c := (hx_arr (b := 56) (k := 0) (by decide) h).symm
theorem hM_1 {M : Mem} {c : Nat} (h : c < 6) : mI M 57 c = hM M 1 c := (hx_arr (b := 56) (k := 1) (by decide) h).symm
theorem hM_2 {M : Mem} {c : Nat} (h : c < 6) : mI M 58 c = hM M 2 c := (hx_arr (b := 56) (k := 2) (by decide) h).symm
theorem hM_3 {M : Mem} {c : Nat} (h : c < 6) : mI M 59 c = hM M 3 c := (hx_arr (b := 56) (k := 3) (by decide) h).symm
theorem hM_4 {M : Mem} {c : Nat} (h : c < 6) : mI M 60 c = hM M 4 c := (hx_arr (b := 56) (k := 4) (by decide) h).symm
theorem hM_5 {M : Mem} {c : Nat} (h : c < 24) : mI M 61 c = hM M 5 c := (hx_arr (b := 56) (k := 5) (by decide) h).symm
theorem hM_h {M : Mem} : mI M 55 7 = hM M 6 0 := rfl
theorem hM_p {M : Mem} : mI M 55 1 = hM M 6 1 := rfl
theorem hM_s0 {M : Mem} {i : Nat} {x : Int32} (h : i < 25) : hM (stI M 56 i x) = up2 (hM M) 0 i x := hx_put (b := 56) (k := 0) (by decide) h (by decide)
theorem hM_s2 {M : Mem} {i : Nat} {x : Int32} (h : i < 6) : hM (stI M 58 i x) = up2 (hM M) 2 i x := hx_put (b := 56) (k := 2) (by decide) h (by decide)
theorem hM_s3 {M : Mem} {i : Nat} {x : Int32} (h : i < 6) : hM (stI M 59 i x) = up2 (hM M) 3 i x := hx_put (b := 56) (k := 3) (by decide) h (by decide)
theorem hM_s4 {M : Mem} {i : Nat} {x : Int32} (h : i < 6) : hM (stI M 60 i x) = up2 (hM M) 4 i x := hx_put (b := 56) (k := 4) (by decide) h (by decide)
theorem hM_sh {M : Mem} {x : Int32} : hM (stI M 55 7 x) = up2 (hM M) 6 0 x := hx_hr (by decide) (by decide)
theorem hM_w {M : Mem} {a : Nat} {F : Nat → Int32} (h : 62 ≤ a) : hM (wF M a F) = hM M := hx_wF (by omega) (by omega)
def mnx (c w : Int32) : Int32 := if w = 0 then (if 5 ≤ c then c - 5 else -1) else if w = 1 then (if c - c / 5 * 5 = 4 then -1 else c + 1) else if w = 2 then (if c ≤ 19 then c + 5 else -1) else (if c - c / 5 * 5 = 0 then -1 else c - 1)
theorem mnx_nxt : ∀ c, c < 25 → ∀ w, w < 4 → mnx (nI c) (nI w) = nxt (nI c) (nI w) := by decide +kernel
theorem p_mnext {M : Mem} {c w : Nat} (hc : c < 25) (hw : w < 4) : fX12_next M (nI c) (nI w) = some (nxt (nI c) (nI w), M) := by
  rw [← mnx_nxt c hc w hw]
  unfold fX12_next mnx
  repeat' split
  all_goals rfl
theorem p_mbald {M : Mem} {c : Nat} {lw : Law} {bd : Int32} (h : Sh M) (hq : Mq M lw bd) (hc : c < 25) : fX12_isBald M 55 (nI c) = some (if hM M 0 c < bd then 0 else 1, M) := by
  simp only [fX12_isBald, k_55 h, r_55_0 h, k_56 h, g_56 h, inb_n hc (by decide : 25 < 1000000), tn (show c < 1000000 by omega), (hq.2 M Sm_r).1, ck_t, rb_s, bd_s, hM_0 hc]
  split <;> rfl
theorem sub20 (s : Int32) : 20 - s = -s + 20 := by rw [Int32.sub_eq_add_neg, Int32.add_comm]
set_option maxHeartbeats 1000000 in
theorem p_mpull {M : Mem} {p c : Nat} {lw : Law} {bd0 : Int32} (h : Sh M) (hq : Mq M lw bd0) (hH : Hok (hM M)) (hp : p < 6) (hc : c < 25) : ∃ G, fX12_pullOf M 55 (nI p) (nI c) = some (aPull lw (hM M) p c, wF M 69 G) := by
  obtain ⟨G, hG⟩ := (hq.2 M Sm_r).2 p c hp hc
  refine ⟨G, ?_⟩
  obtain ⟨-, ⟨hr, hr2, er⟩, -⟩ := id hH
  obtain ⟨pl, hpl, epl⟩ := hH.2.2.2.2.1 p hp
  have ip := inb_n hp (by decide : 6 < 1000000)
  have tp := tn (show p < 1000000 by omega)
  have n9 : ∀ a, a ≠ 69 → ∀ i, mI (wF M 69 G) a i = mI M a i := fun a ha i => by rw [mI_wF, if_neg ha]
  have hrow : (4 * nI p + (mI M 55 7 - mI M 55 7 / 4 * 4)) = nI (p * 4 + hr % 4) ∧ p * 4 + hr % 4 < 24 := by
    rw [hM_h, er]
    have e : nI hr - nI hr / 4 * 4 = nI (hr % 4) := pk_rem (d := 4) (by omega) (by decide) (by decide)
    rw [e, show (4 : Int32) = nI 4 from rfl, pk_mul, nI_add, Nat.mul_comm]
    exact ⟨rfl, by omega⟩
  have hrow2 : (nI p * 4 + aRem (hM M 6 0) 4) = nI (p * 4 + hr % 4) := by
    rw [← hrow.1, Int32.mul_comm]
    rfl
  have hin : inb (4 * nI p + (mI M 55 7 - mI M 55 7 / 4 * 4)) 24 = true := by
    rw [hrow.1]
    exact inb_n hrow.2 (by decide)
  unfold fX12_pullOf
  rw [k_55 h, ck_t, hG, bd_s]
  have e5 : mI M 61 (4 * nI p + (mI M 55 7 - mI M 55 7 / 4 * 4)).toNatClampNeg = hM M 5 (nI p * 4 + aRem (hM M 6 0) 4).toNatClampNeg := by
    rw [hrow.1, hrow2, tn (by omega)]
    exact hM_5 hrow.2
  simp only [isK_wF, mR_wF, mG_wF, gX12_pullOf_24, n9 55 (by decide), n9 57 (by decide), n9 58 (by decide), n9 59 (by decide), n9 61 (by decide), k_55 h, r_55_2 h, r_55_3 h, r_55_4 h, r_55_6 h, k_57 h, g_57 h, k_58 h, g_58 h, k_59 h, g_59 h, k_61 h, g_61 h, ip, tp, ck_t, rb_s, hM_1 hp, hM_2 hp, hM_3 hp, hin, e5]
  unfold aPull aKn
  have er2 : aRem (hM M 6 0) 2 = mI M 55 7 - mI M 55 7 / 2 * 2 := rfl
  have er3 : aRem (nI c) 2 = nI c - nI c / 2 * 2 := rfl
  have er5 : nxt (hM M 3 p) 1 = if 4 ≤ hM M 3 p - hM M 3 p / 5 * 5 then -1 else hM M 3 p + 1 := rfl
  rw [er2, er3, er5, sub20]
  have hm1 : ¬ nI c = -1 := m1_ne (by omega)
  by_cases q2 : hM M 1 p = 2
  · simp (decide := true) only [q2, if_true]
    split <;> rfl
  by_cases q3 : hM M 1 p = 3
  · simp (decide := true) only [q2, q3, if_true, if_false]
    split <;> rfl
  by_cases q4 : hM M 1 p = 4
  · simp (decide := true) only [q2, q3, q4, if_true, if_false]
    split <;> split <;> rfl
  by_cases q5 : hM M 1 p = 5
  · simp (decide := true) only [q2, q3, q4, q5, if_true, if_false]
    by_cases g : 4 ≤ hM M 3 p - hM M 3 p / 5 * 5
    · simp (decide := true) only [g, if_true, hm1, if_false]
      split <;> rfl
    · simp (decide := true) only [g, if_false]
      split <;> split <;> rfl
  by_cases q6 : hM M 1 p = 6
  · simp (decide := true) only [q2, q3, q4, q5, q6, if_true, if_false]
    split <;> rfl
  · simp (decide := true) only [q2, q3, q4, q5, q6, if_false]
    split <;> rfl
