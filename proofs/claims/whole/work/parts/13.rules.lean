/-! ===== rules of arrays ===== -/
def inb (i : Int32) (n : Nat) : Bool := !(decide (i < 0)) && decide (i.toNatClampNeg < n)
theorem inb_in {i : Int32} {n : Nat} (h : inb i n = true) : vp_in i n := by
  simp only [inb, Bool.and_eq_true, Bool.not_eq_true', decide_eq_false_iff_not, decide_eq_true_eq] at h
  exact fun q => q.elim h.1 (fun q => Nat.not_le.mpr h.2 q)
section RULES3
variable {z : Zx} {fx : Fx} {al : Bool} {own nm : String} {cc : ByteArray} {rt : Option FieldType} {nL r mc ms : Nat} {rv : Option Value} {N : Mem} {pc : Nat} {lv : List (Option Value)} {st : List Value} {M : Mem} {nc ns : Nat}
theorem v_iaload (hz : Zok z fx al own nm cc rt nL r mc ms rv N) {a : Nat} {i : Int32} (hd : decode cc pc = .ok (.iaload, 1)) (ha : a < mN M) (hk : mK M a = 14) (hin : inb i (mG M a) = true) (kk : V z (pc + 1) lv (.int (mI M a i.toNatClampNeg) :: st) M nc ns) : V z pc lv (.int i :: .ref a :: st) M nc ns := by
  intro H locs ls hw hl
  have he := wl_get (cy := z.cy) (ad := z.ad) ha
  rw [ent_ints hk (by decide)] at he
  exact va_iald hz.exec hz.code hz.K hw.1 a 1 he rfl (inb_in hin) hd (kk H locs ls hw hl)
theorem v_baload (hz : Zok z fx al own nm cc rt nL r mc ms rv N) {a : Nat} {i : Int32} (hd : decode cc pc = .ok (.baload, 1)) (ha : a < mN M) (hk : mK M a = 13) (hin : inb i (mG M a) = true) (kk : V z (pc + 1) lv (.int (mI M a i.toNatClampNeg) :: st) M nc ns) : V z pc lv (.int i :: .ref a :: st) M nc ns := by
  intro H locs ls hw hl
  have he := wl_get (cy := z.cy) (ad := z.ad) ha
  rw [ent_ints hk (by decide)] at he
  exact va_bald hz.exec hz.code hz.K hw.1 a 0 he rfl (inb_in hin) hd (kk H locs ls hw hl)
theorem v_zaload (hz : Zok z fx al own nm cc rt nL r mc ms rv N) {a : Nat} {i : Int32} (hd : decode cc pc = .ok (.baload, 1)) (ha : a < mN M) (hk : mK M a = 16) (hin : inb i (mG M a) = true) (kk : V z (pc + 1) lv (.int (mI M a i.toNatClampNeg) :: st) M nc ns) : V z pc lv (.int i :: .ref a :: st) M nc ns := by
  intro H locs ls hw hl
  have he := wl_get (cy := z.cy) (ad := z.ad) ha
  rw [ent_ints hk (by decide)] at he
  exact va_zald hz.exec hz.code hz.K hw.1 a 3 he rfl (inb_in hin) hd (kk H locs ls hw hl)
theorem v_laload (hz : Zok z fx al own nm cc rt nL r mc ms rv N) {a : Nat} {i : Int32} (hd : decode cc pc = .ok (.laload, 1)) (ha : a < mN M) (hk : mK M a = 15) (hin : inb i (mG M a) = true) (kk : V z (pc + 1) lv (.long (mL M a i.toNatClampNeg) :: st) M nc ns) : V z pc lv (.int i :: .ref a :: st) M nc ns := by
  intro H locs ls hw hl
  have he := wl_get (cy := z.cy) (ad := z.ad) ha
  rw [ent_longs hk] at he
  exact va_lald hz.exec hz.code hz.K hw.1 a 2 he rfl (inb_in hin) hd (kk H locs ls hw hl)
theorem v_aaload (hz : Zok z fx al own nm cc rt nL r mc ms rv N) {a b : Nat} {i : Int32} (hd : decode cc pc = .ok (.aaload, 1)) (ha : a < mN M) (hk : mK M a = 17) (hin : inb i (mG M a) = true) (hr : mR M a i.toNatClampNeg = some b) (kk : V z (pc + 1) lv (.ref b :: st) M nc ns) : V z pc lv (.int i :: .ref a :: st) M nc ns := by
  intro H locs ls hw hl
  have he := wl_get (cy := z.cy) (ad := z.ad) ha
  rw [ent_refs hk] at he
  refine va_aldq hz.exec hz.code hz.K hw.1 a 4 he rfl (inb_in hin) hd ?_
  show W z.p z.l z.e z.R z.s z.m z.a z.b z.mt z.c H locs nc ns z.Q (F0 z.m (pc + 1) ls (va_rf ((mR M a i.toNatClampNeg).map z.ad) :: st.map (tv z.ad z.ex)))
  rw [hr]
  exact kk H locs ls hw hl
theorem v_alen (hz : Zok z fx al own nm cc rt nL r mc ms rv N) {a : Nat} (hd : decode cc pc = .ok (.arraylength, 1)) (ha : a < mN M) (hk : mK M a = 14) (kk : V z (pc + 1) lv (.int (Int32.ofNat (mG M a)) :: st) M nc ns) : V z pc lv (.ref a :: st) M nc ns := by
  intro H locs ls hw hl
  have he := wl_get (cy := z.cy) (ad := z.ad) ha
  rw [ent_ints hk (by decide)] at he
  exact va_alen hz.exec hz.code hz.K hw.1 a 1 he (ty := .int) rfl (v := Int32.ofNat (mG M a)) rfl hd (kk H locs ls hw hl)
/-- what a store into an array leaves of the world -/
theorem w_arr {a : Nat} {M' : Mem} {e : va_E} (hn : mN M' = mN M) (hK : ∀ b, mK M' b = mK M b) (hG : ∀ b, mG M' b = mG M b) (hR : ∀ b, b ≠ a → ∀ j, mR M' b j = mR M b j) (hI : ∀ b, b ≠ a → ∀ j, mI M' b j = mI M b j) (hL : ∀ b, b ≠ a → ∀ j, mL M' b j = mL M b j) (he : ent z.cy z.ad M' a = e) : (wl z.cy z.ad M).set a (z.ad a, e) = wl z.cy z.ad M' :=
  wl_set hn (fun j hj => ent_same (hK j) (hG j) (hR j hj) (hI j hj) (hL j hj)) he
theorem stI_row (a i : Nat) (x : Int32) : mI (stI M a i x) a = upd (mI M a) i x := by
  funext j
  by_cases h : j = i <;> simp [mI_stI, upd, h]
theorem stL_row (a i : Nat) (x : Int64) : mL (stL M a i x) a = vp_updL (mL M a) i x := by
  funext j
  by_cases h : j = i <;> simp [mL_stL, vp_updL, h]
theorem v_ist (hz : Zok z fx al own nm cc rt nL r mc ms rv N) {a : Nat} {i x y : Int32} {c : Nat} (hc : c = 13 ∨ c = 14 ∨ c = 16) (ha : a < mN M) (hk : mK M a = c)
    (kk : V z (pc + 1) lv st (stI M a i.toNatClampNeg y) nc ns)
    (kit : ∀ (H : Heap) (locs : List Loc) (ls : Array Slot), Wd z M H locs → (∀ H1 : Heap, H1[z.ad a]? = some ((vp_cell (z.cy c) (mG M a, .inl (mI M a))).setSlot i.toNatClampNeg (.int y)) → H1.size = H.size → (∀ q, q ≠ z.ad a → H1[q]? = H[q]?) → W z.p z.l z.e z.R z.s z.m z.a z.b z.mt z.c H1 (locs ++ [⟨z.ad a, i.toNatClampNeg⟩]) nc ns z.Q (F0 z.m (pc + 1) ls (st.map (tv z.ad z.ex)))) → W z.p z.l z.e z.R z.s z.m z.a z.b z.mt z.c H locs nc ns z.Q (F0 z.m pc ls (.int x :: .int i :: .ref (z.ad a) :: st.map (tv z.ad z.ex)))) :
    V z pc lv (.int x :: .int i :: .ref a :: st) M nc ns := by
  intro H locs ls hw hl
  have he := wl_get (cy := z.cy) (ad := z.ad) ha
  rw [ent_ints hk hc] at he
  have hD := hz.D M
  refine kit H locs ls hw fun H1 e z1 oq => ?_
  have hat : va_at z.D vwCl (z.ad a, .inl (z.cy c, (mG M a, .inl (upd (mI M a) i.toNatClampNeg y)))) H1 := by
    show H1[z.ad a]? = some (vp_cell _ _)
    rw [e, vp_cell_i, vp_cell_i, arrV_store]
    congr 2
    funext q
    by_cases hq : q = i.toNatClampNeg
    · subst hq
      simp [updV, upd]
    · simp [updV, upd, hq]
  have hP' := hw.1.set hD he hat oq
  rw [w_arr (M := M) (M' := stI M a i.toNatClampNeg y) rfl (fun _ => rfl) (fun _ => rfl) (fun _ _ _ => rfl) (fun b hb j => up2_ne (Or.inl hb)) (fun _ _ _ => rfl) (by rw [ent_ints (M := stI M a i.toNatClampNeg y) hk hc, stI_row]; rfl)] at hP'
  exact kk H1 _ ls ⟨hP', hw.2.1.put z1 oq (hD.2 a _ he), fun hal j => by rw [mN_stI, z1]; exact hw.2.2 hal j⟩ hl
theorem v_iastore (hz : Zok z fx al own nm cc rt nL r mc ms rv N) {a : Nat} {i x : Int32} (hd : decode cc pc = .ok (.iastore, 1)) (ha : a < mN M) (hk : mK M a = 14) (hin : inb i (mG M a) = true) (kk : V z (pc + 1) lv st (stI M a i.toNatClampNeg x) nc ns) : V z pc lv (.int x :: .int i :: .ref a :: st) M nc ns := by
  refine v_ist hz (c := 14) (by decide) ha hk kk fun H locs ls hw k => ?_
  have he := wl_get (cy := z.cy) (ad := z.ad) ha
  rw [ent_ints hk (by decide)] at he
  exact W.iast hz.exec hz.code (hw.1 a _ he) ((hz.K.2 1 _ rfl).1 (mG M a) (fun j => .int (mI M a j))) (fun q => by cases q) (by show ¬ (i < 0 ∨ (arrV _ _ _).slots.size ≤ _); rw [arrV_size]; exact inb_in hin) rfl rfl hd k
theorem v_bastore (hz : Zok z fx al own nm cc rt nL r mc ms rv N) {a : Nat} {i x : Int32} (hd : decode cc pc = .ok (.bastore, 1)) (ha : a < mN M) (hk : mK M a = 13) (hin : inb i (mG M a) = true) (kk : V z (pc + 1) lv st (stI M a i.toNatClampNeg x.toInt8.toInt32) nc ns) : V z pc lv (.int x :: .int i :: .ref a :: st) M nc ns := by
  refine v_ist hz (c := 13) (by decide) ha hk kk fun H locs ls hw k => ?_
  have he := wl_get (cy := z.cy) (ad := z.ad) ha
  rw [ent_ints hk (by decide)] at he
  exact W.bast hz.exec hz.code (hw.1 a _ he) ((hz.K.2 0 _ rfl).1 (mG M a) (fun j => .int (mI M a j))) (fun q => by cases q) (by show ¬ (i < 0 ∨ (arrV _ _ _).slots.size ≤ _); rw [arrV_size]; exact inb_in hin) rfl rfl hd k
theorem v_zastore (hz : Zok z fx al own nm cc rt nL r mc ms rv N) {a : Nat} {i x : Int32} (hx : x = 0 ∨ x = 1) (hd : decode cc pc = .ok (.bastore, 1)) (ha : a < mN M) (hk : mK M a = 16) (hin : inb i (mG M a) = true) (kk : V z (pc + 1) lv st (stI M a i.toNatClampNeg x) nc ns) : V z pc lv (.int x :: .int i :: .ref a :: st) M nc ns := by
  refine v_ist hz (c := 16) (by decide) ha hk kk fun H locs ls hw k => ?_
  have he := wl_get (cy := z.cy) (ad := z.ad) ha
  rw [ent_ints hk (by decide)] at he
  refine W.zast hz.exec hz.code (hw.1 a _ he) ((hz.K.2 3 _ rfl).1 (mG M a) (fun j => .int (mI M a j))) (fun q => by cases q) (by show ¬ (i < 0 ∨ (arrV _ _ _).slots.size ≤ _); rw [arrV_size]; exact inb_in hin) rfl rfl hd fun H1 e z1 oq => k H1 ?_ z1 oq
  rw [e]
  rcases hx with rfl | rfl <;> rfl
theorem v_lastore (hz : Zok z fx al own nm cc rt nL r mc ms rv N) {a : Nat} {i : Int32} {x : Int64} (hd : decode cc pc = .ok (.lastore, 1)) (ha : a < mN M) (hk : mK M a = 15) (hin : inb i (mG M a) = true) (kk : V z (pc + 1) lv st (stL M a i.toNatClampNeg x) nc ns) : V z pc lv (.long x :: .int i :: .ref a :: st) M nc ns := by
  intro H locs ls hw hl
  have he := wl_get (cy := z.cy) (ad := z.ad) ha
  rw [ent_longs hk] at he
  have hD := hz.D M
  refine W.last hz.exec hz.code (hw.1 a _ he) ((hz.K.2 2 _ rfl).1 (mG M a) (fun j => .long (mL M a j))) (fun q => by cases q) (by show ¬ (i < 0 ∨ (arrV _ _ _).slots.size ≤ _); rw [arrV_size]; exact inb_in hin) rfl rfl hd fun H1 e z1 oq => ?_
  have hat : va_at z.D vwCl (z.ad a, .inl (z.cy 15, (mG M a, .inr (.inl (vp_updL (mL M a) i.toNatClampNeg x))))) H1 := by
    show H1[z.ad a]? = some (vp_cell _ _)
    rw [e, vp_cell_l, vp_cell_l, arrV_store]
    congr 2
    funext q
    by_cases hq : q = i.toNatClampNeg
    · subst hq
      simp [updV, vp_updL]
    · simp [updV, vp_updL, hq]
  have hP' := hw.1.set hD he hat oq
  rw [w_arr (M := M) (M' := stL M a i.toNatClampNeg x) rfl (fun _ => rfl) (fun _ => rfl) (fun _ _ _ => rfl) (fun _ _ _ => rfl) (fun b hb j => up2_ne (Or.inl hb)) (by rw [ent_longs (M := stL M a i.toNatClampNeg x) hk, stL_row]; rfl)] at hP'
  exact kk H1 _ ls ⟨hP', hw.2.1.put z1 oq (hD.2 a _ he), fun hal j => by rw [mN_stL, z1]; exact hw.2.2 hal j⟩ hl
end RULES3
