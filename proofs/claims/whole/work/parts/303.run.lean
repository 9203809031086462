/-! ===== the law's run as a function ===== -/
def M0 : Mem := ((0, fun _ => 0, fun _ => 0, fun _ _ => none), fun _ _ => 0, fun _ _ => 0)
noncomputable def gL_law (xs : Nat → Int32) (L : Nat) : Nat → Mem → Nat → Nat → Int32 → Option (Unit × Mem)
  | 0, _, _, _, _ => none
  | n + 1, M, l1, l2, l3 => bL_law xs L (gL_law xs L n) M l1 l2 l3
theorem gL_law_s (xs : Nat → Int32) (L n : Nat) (M : Mem) (l1 l2 : Nat) (l3 : Int32) : gL_law xs L (n + 1) M l1 l2 l3 = bL_law xs L (gL_law xs L n) M l1 l2 l3 := rfl
noncomputable def fL_law (xs : Nat → Int32) (L : Nat) : Option (Unit × Mem) := bd (fX11_init (alc M0 11 0) 0) fun _ M2 => bd (fX12_init (alc M2 12 0) (mN M2)) fun _ M3 => gL_law xs L 600 M3 0 (mN M2) 0
set_option maxRecDepth 100000 in
set_option maxHeartbeats 4000000 in
theorem wL_loop {z : Zx} {fx : Fx} {nmL : String} {r : Nat} {N Nz : Mem} {L : Nat} {xs : Nat → Int32} (hz : Zok z fx true RL nmL cL_law ret 4 (r + 80) 600000 7302250 (some (.float 0)) Nz) (hX : Lw z L xs) (hR : LwEnd z) : ∀ (n : Nat) {M : Mem} {l1 l2 : Nat} {l3 : Int32} {nc ns : Nat}, nc + 2 * n ≤ 598000 → ns + 107 * n ≤ 7200000 → gL_law xs L n M l1 l2 l3 = some ((), N) → V z 18 [some (.retAddr 30), some (.ref l1), some (.ref l2), some (.int l3)] [] M nc ns := by
  intro n
  induction n with
  | zero => intro M l1 l2 l3 nc ns _ _ h; cases h
  | succ n ih =>
    intro M l1 l2 l3 nc ns h1 h2 h
    exact wL_law hz hX hR (by omega) (by omega) (K18 := gL_law xs L n) (fun h h3 h4 => v_wide h3 h4 (ih (by omega) (by omega) h)) ((gL_law_s xs L n M l1 l2 l3).symm.trans h)
set_option maxRecDepth 100000 in
set_option maxHeartbeats 4000000 in
theorem wL_start {z : Zx} {fx : Fx} {nmL : String} {r : Nat} {N Nz : Mem} {L : Nat} {xs : Nat → Int32} (hz : Zok z fx true RL nmL cL_law ret 4 (r + 80) 600000 7302250 (some (.float 0)) Nz) (hX : Lw z L xs) (hR : LwEnd z) (h : fL_law xs L = some ((), N)) : V z 0 [some (.retAddr 30), none, none, none] [] M0 0 0 := by
  unfold fL_law at h
  obtain ⟨x1, M2, e1, h⟩ := bd_inv h
  obtain ⟨x2, M3, e2, h⟩ := bd_inv h
  refine v_new hz nw_L_7 (by decide) (by decide) dL_law_0 ?_
  refine v_dup hz rfl dL_law_3 ?_
  refine v_callI hz (As := []) il_L_9 (tX11_init (r + 75) e1) rfl rfl rfl (Nat.le_of_ble_eq_true rfl) ⟨by decide, by decide⟩ dL_law_4 ?_
  show V z 7 [some (.retAddr 30), none, none, none] [.ref 0] M2 55 1203
  refine v_astore_n hz (lw := [some (.retAddr 30), some (.ref 0), none, none]) rfl (Nat.le_of_ble_eq_true rfl) rfl rfl dL_law_7 ?_
  refine v_new hz nw_L_10 (by decide) (by decide) dL_law_8 ?_
  refine v_dup hz rfl dL_law_11 ?_
  refine v_callI hz (As := []) il_L_12 (tX12_init (r + 78) e2) rfl rfl rfl (Nat.le_of_ble_eq_true rfl) ⟨by decide, by decide⟩ dL_law_12 ?_
  show V z 15 [some (.retAddr 30), some (.ref 0), none, none] [.ref (mN M2)] M3 85 3438
  refine v_astore_n hz (lw := [some (.retAddr 30), some (.ref 0), some (.ref (mN M2)), none]) rfl (Nat.le_of_ble_eq_true rfl) rfl rfl dL_law_15 ?_
  refine v_iconst hz (v := (0 : Int32)) (by decide) dL_law_16 ?_
  refine v_istore_n hz (lw := [some (.retAddr 30), some (.ref 0), some (.ref (mN M2)), some (.int (0 : Int32))]) rfl (Nat.le_of_ble_eq_true rfl) rfl rfl dL_law_17 ?_
  exact wL_loop hz hX hR 600 (by decide) (by decide) h
