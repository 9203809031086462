/-! ===== rules of fields and arrays ===== -/
/-- a field's link: in class own, the pool's idx names field k of the class number ci -/
def FL (own : String) (idx ci k : Nat) : Prop := ∃ (C : String) (T : u_T) (n : Nat) (ty0 : Nat → FieldType), vwCl[ci]? = some (C, T, n) ∧ k < n ∧ ci < 13 ∧ Cond.fieldLink own idx (T k).1 (T k).2.1 (T k).2.2.1 ∈ BIG ∧ (∀ w ∈ u_ws C T n, w ∈ BIG) ∧ (∀ j, j < n → parseFieldDescriptor (T j).2.2.1 = some (ty0 j)) ∧ (∀ a, a < n → ∀ b, b < n → a ≠ b → (T a).2.1 ≠ (T b).2.1)
/-- of that field: its type, and whether it is final -/
def FT (ci k : Nat) (ty : FieldType) (fin : Bool) (decl : String) : Prop := ∃ (C : String) (T : u_T) (n : Nat), vwCl[ci]? = some (C, T, n) ∧ parseFieldDescriptor (T k).2.2.1 = some ty ∧ (T k).2.2.2 = fin ∧ (T k).1 = decl
section RULES2
variable {z : Zx} {fx : Fx} {al : Bool} {own nm : String} {cc : ByteArray} {rt : Option FieldType} {nL r mc ms : Nat} {rv : Option Value} {N : Mem} {pc : Nat} {lv : List (Option Value)} {st : List Value} {M : Mem} {nc ns : Nat}
theorem v_getI (hz : Zok z fx al own nm cc rt nL r mc ms rv N) {idx ci k a : Nat} (hf : FL own idx ci k) (hb : (fk ci)[k]? = some false) (hd : decode cc pc = .ok (.getfield idx, 3)) (ha : a < mN M) (hka : mK M a = ci) (kk : V z (pc + 3) lv (.int (mI M a k) :: st) M nc ns) : V z pc lv (.ref a :: st) M nc ns := by
  intro H locs ls hw hl
  obtain ⟨C, T, n, ty0, hc, hk, hci, hlk, hin, hty, hnm⟩ := hf
  have he := wl_get (cy := z.cy) (ad := z.ad) ha
  rw [ent_obj hka hci] at he
  exact va_get hz.exec hz.code hz.ts hin hz.hown hz.K hw.1 a he hc k hk (hz.ts _ hlk) (fun _ h => h) (v := .int (mI M a k)) (by rw [flds_at hb]; rfl) hd (kk H locs ls hw hl)
theorem v_getR (hz : Zok z fx al own nm cc rt nL r mc ms rv N) {idx ci k a b : Nat} (hf : FL own idx ci k) (hb : (fk ci)[k]? = some true) (hd : decode cc pc = .ok (.getfield idx, 3)) (ha : a < mN M) (hka : mK M a = ci) (hr : mR M a k = some b) (kk : V z (pc + 3) lv (.ref b :: st) M nc ns) : V z pc lv (.ref a :: st) M nc ns := by
  intro H locs ls hw hl
  obtain ⟨C, T, n, ty0, hc, hk, hci, hlk, hin, hty, hnm⟩ := hf
  have he := wl_get (cy := z.cy) (ad := z.ad) ha
  rw [ent_obj hka hci] at he
  exact va_get hz.exec hz.code hz.ts hin hz.hown hz.K hw.1 a he hc k hk (hz.ts _ hlk) (fun _ h => h) (v := .ref (z.ad b)) (by rw [flds_at hb, fv, if_pos rfl, hr]; rfl) hd (kk H locs ls hw hl)
/-- what a store into a field leaves of the world -/
theorem w_fld {ci k a : Nat} {M' : Mem} {bt : Bool} {v : Value} (hci : ci < 13) (hka : mK M a = ci) (hb : (fk ci)[k]? = some bt) (hn : mN M' = mN M) (hK : ∀ b, mK M' b = mK M b) (hG : ∀ b, mG M' b = mG M b) (hR : ∀ b j, (b ≠ a ∨ j ≠ k) → mR M' b j = mR M b j) (hI : ∀ b j, (b ≠ a ∨ j ≠ k) → mI M' b j = mI M b j) (hL : ∀ b j, mL M' b j = mL M b j) (hv : fv z.ad M' a k bt = v) :
    (wl z.cy z.ad M).set a (z.ad a, .inr (ci, (flds z.ad M a (fk ci)).set k v)) = wl z.cy z.ad M' := by
  refine wl_set hn (fun j hj => ent_same (hK j) (hG j) (fun i => hR j i (Or.inl hj)) (fun i => hI j i (Or.inl hj)) (hL j)) ?_
  rw [ent_obj ((hK a).trans hka) hci, ← hv, flds_set hb (fun j hj => ⟨hR a j (Or.inr hj), hI a j (Or.inr hj)⟩)]
theorem w_put {A : Nat → Prop} {H0 H : Heap} {locs : List Loc} {a i : Nat} {H1 : Heap} (h : va_S A H0 H locs) (e2 : H1.size = H.size) (e3 : ∀ q, q ≠ a → H1[q]? = H[q]?) (ha : A a) : va_S A H0 H1 (locs ++ [⟨a, i⟩]) := h.put e2 e3 ha
theorem v_putX (hz : Zok z fx al own nm cc rt nL r mc ms rv N) {idx ci k a : Nat} {M' : Mem} {ty : FieldType} {v : Value} (hf : FL own idx ci k) (ht : FT ci k ty false own ∨ ∃ d, FT ci k ty false d) (hnr : narrow ty v = v) (hfit : fits ty v = true) (hd : decode cc pc = .ok (.putfield idx, 3)) (ha : a < mN M) (hka : mK M a = ci) (hkl : k < (fk ci).length) (hws : (wl z.cy z.ad M).set a (z.ad a, .inr (ci, (flds z.ad M a (fk ci)).set k v)) = wl z.cy z.ad M') (hn : mN M' = mN M) {sv : Value} (hsv : tv z.ad z.ex sv = v) (kk : V z (pc + 3) lv st M' nc ns) : V z pc lv (sv :: .ref a :: st) M nc ns := by
  intro H locs ls hw hl
  obtain ⟨C, T, n, ty0, hc, hk, hci, hlk, hin, hty, hnm⟩ := hf
  obtain ⟨d, C', T', n', hc', hpt, hfin, hdecl⟩ : ∃ d, FT ci k ty false d := ht.elim (fun h => ⟨own, h⟩) id
  cases hc.symm.trans hc'
  have he := wl_get (cy := z.cy) (ad := z.ad) ha
  rw [ent_obj hka hci] at he
  have hD := hz.D M
  have hap := va_apart (own := own) hz.ts hin ty0 hty hnm hz.K hc
  obtain ⟨rr, h1, cell, q1, q2, q3, q4⟩ := hw.1 a _ he
  have hr : rr = (C, T, n) := Option.some.inj (h1.symm.trans hc)
  subst hr
  obtain ⟨hS, hfc, kC, hkC, hkind⟩ := hz.K.1 ci _ hc
  obtain ⟨cf, kf, fi, f, hi, hsl⟩ := hS k hk
  have hlay := hz.ts _ (hin _ (u_in_lay hk))
  unfold u_lay at hlay
  rw [if_neg (by rw [hfin]; decide)] at hlay
  have hst := (u_facts hfc hkC (u_lays hz.ts hin hk) hi).1
  have h6 := u_store hfc hkC hkind hlay hi hpt hnr hfit
  show W z.p z.l z.e z.R z.s z.m z.a z.b z.mt z.c H locs nc ns z.Q (F0 z.m pc ls (tv z.ad z.ex sv :: .ref (z.ad a) :: st.map (tv z.ad z.ex)))
  rw [hsv]
  refine W.putK hz.exec hz.code (f := f) ⟨hz.hown, hz.ts _ hlk, ⟨_, _, _, hi⟩, hst⟩ (by rw [q2]; exact h6) q1 q3 (by rw [hsl]; exact k2_hasslot (q4 k hk)) rfl rfl hd fun H' e1 e2 e3 => ?_
  rw [hsl] at e1 ⊢
  have hat : va_at z.D vwCl (z.ad a, .inr (ci, (flds z.ad M a (fk ci)).set k v)) H' := ⟨_, hc, t_OB.to (V := updV (vp_V (flds z.ad M a (fk ci))) k v) ⟨_, e1, q2, q3, t_set q4 hap hk v⟩ (fun j _ => vp_updV_set (by rw [flds_len]; exact hkl) v j)⟩
  have hP' := hw.1.set hD he hat e3
  rw [hws] at hP'
  exact kk H' _ ls ⟨hP', hw.2.1.put e2 e3 (hD.2 a _ he), fun hal j => by rw [hn, e2]; exact hw.2.2 hal j⟩ hl
theorem v_putXF (hz : Zok z fx al own nm cc rt nL r mc ms rv N) {idx ci k a : Nat} {M' : Mem} {ty : FieldType} {v : Value} (hf : FL own idx ci k) (ht : FT ci k ty true own) (hin2 : nm = "<init>") (hnr : narrow ty v = v) (hfit : fits ty v = true) (hd : decode cc pc = .ok (.putfield idx, 3)) (ha : a < mN M) (hka : mK M a = ci) (hkl : k < (fk ci).length) (hws : (wl z.cy z.ad M).set a (z.ad a, .inr (ci, (flds z.ad M a (fk ci)).set k v)) = wl z.cy z.ad M') (hn : mN M' = mN M) {sv : Value} (hsv : tv z.ad z.ex sv = v) (kk : V z (pc + 3) lv st M' nc ns) : V z pc lv (sv :: .ref a :: st) M nc ns := by
  intro H locs ls hw hl
  obtain ⟨C, T, n, ty0, hc, hk, hci, hlk, hin, hty, hnm⟩ := hf
  obtain ⟨C', T', n', hc', hpt, hfin, hdecl⟩ := ht
  cases hc.symm.trans hc'
  have he := wl_get (cy := z.cy) (ad := z.ad) ha
  rw [ent_obj hka hci] at he
  have hD := hz.D M
  have hap := va_apart (own := own) hz.ts hin ty0 hty hnm hz.K hc
  obtain ⟨rr, h1, cell, q1, q2, q3, q4⟩ := hw.1 a _ he
  have hr : rr = (C, T, n) := Option.some.inj (h1.symm.trans hc)
  subst hr
  obtain ⟨hS, hfc, kC, hkC, hkind⟩ := hz.K.1 ci _ hc
  obtain ⟨cf, kf, fi, f, hi, hsl⟩ := hS k hk
  have hlay := hz.ts _ (hin _ (u_in_lay hk))
  unfold u_lay at hlay
  rw [if_pos hfin] at hlay
  have hst := (u_facts hfc hkC (u_lays hz.ts hin hk) hi).1
  have hcf : z.m.cls = cf := by
    obtain ⟨_, _, c', _, _, _, -, -, hf', -, -, -, hown2, -⟩ := Cond.laysFinal_spec hlay
    have e1 : c' = cf := by have := hi.symm.trans hf'; simp at this; exact this.1.symm
    rw [hdecl] at hown2
    rw [← e1]; exact Option.some.inj (hz.hown.symm.trans hown2)
  have h6 := u_fits hfc hkC hkind (Or.inr hlay) hi hpt hnr hfit
  show W z.p z.l z.e z.R z.s z.m z.a z.b z.mt z.c H locs nc ns z.Q (F0 z.m pc ls (tv z.ad z.ex sv :: .ref (z.ad a) :: st.map (tv z.ad z.ex)))
  rw [hsv]
  refine W.putFinK hz.exec hz.code hz.hown (hz.ts _ hlk) hi hst hcf (hz.nam.trans hin2) (by rw [q2]; exact h6) q1 q3 (by rw [hsl]; exact k2_hasslot (q4 k hk)) rfl rfl hd fun H' e1 e2 e3 => ?_
  rw [hsl] at e1 ⊢
  have hat : va_at z.D vwCl (z.ad a, .inr (ci, (flds z.ad M a (fk ci)).set k v)) H' := ⟨_, hc, t_OB.to (V := updV (vp_V (flds z.ad M a (fk ci))) k v) ⟨_, e1, q2, q3, t_set q4 hap hk v⟩ (fun j _ => vp_updV_set (by rw [flds_len]; exact hkl) v j)⟩
  have hP' := hw.1.set hD he hat e3
  rw [hws] at hP'
  exact kk H' _ ls ⟨hP', hw.2.1.put e2 e3 (hD.2 a _ he), fun hal j => by rw [hn, e2]; exact hw.2.2 hal j⟩ hl
theorem up2_ne {α : Type} {f : Nat → Nat → α} {a i b j : Nat} {x : α} (h : b ≠ a ∨ j ≠ i) : up2 f a i x b j = f b j := if_neg (fun q => h.elim (fun h => h q.1) (fun h => h q.2))
theorem v_putI (hz : Zok z fx al own nm cc rt nL r mc ms rv N) {idx ci k a : Nat} {ty : FieldType} {x : Int32} {d : String} (hf : FL own idx ci k) (ht : FT ci k ty false d) (hci : ci < 13) (hb : (fk ci)[k]? = some false) (hnr : narrow ty (.int x) = .int x) (hfit : fits ty (.int x) = true) (hd : decode cc pc = .ok (.putfield idx, 3)) (ha : a < mN M) (hka : mK M a = ci) (kk : V z (pc + 3) lv st (stI M a k x) nc ns) : V z pc lv (.int x :: .ref a :: st) M nc ns :=
  v_putX hz hf (Or.inr ⟨d, ht⟩) hnr hfit hd ha hka (List.getElem?_eq_some_iff.mp hb).1 (w_fld (M' := stI M a k x) hci hka hb rfl (fun _ => rfl) (fun _ => rfl) (fun _ _ _ => rfl) (fun _ _ h => up2_ne h) (fun _ _ => rfl) (by simp [fv, mI_stI])) rfl rfl kk
theorem v_putR (hz : Zok z fx al own nm cc rt nL r mc ms rv N) {idx ci k a b : Nat} {ty : FieldType} {d : String} (hf : FL own idx ci k) (ht : FT ci k ty false d) (hci : ci < 13) (hb : (fk ci)[k]? = some true) (hnr : ∀ q, narrow ty (.ref q) = .ref q) (hfit : ∀ q, fits ty (.ref q) = true) (hd : decode cc pc = .ok (.putfield idx, 3)) (ha : a < mN M) (hka : mK M a = ci) (kk : V z (pc + 3) lv st (stR M a k (some b)) nc ns) : V z pc lv (.ref b :: .ref a :: st) M nc ns :=
  v_putX hz hf (Or.inr ⟨d, ht⟩) (hnr _) (hfit _) hd ha hka (List.getElem?_eq_some_iff.mp hb).1 (w_fld (M' := stR M a k (some b)) (v := .ref (z.ad b)) hci hka hb rfl (fun _ => rfl) (fun _ => rfl) (fun _ _ h => up2_ne h) (fun _ _ _ => rfl) (fun _ _ => rfl) (by simp [fv, mR_stR, va_rf])) rfl rfl kk
theorem v_putIF (hz : Zok z fx al own nm cc rt nL r mc ms rv N) {idx ci k a : Nat} {ty : FieldType} {x : Int32} (hf : FL own idx ci k) (ht : FT ci k ty true own) (hin2 : nm = "<init>") (hci : ci < 13) (hb : (fk ci)[k]? = some false) (hnr : narrow ty (.int x) = .int x) (hfit : fits ty (.int x) = true) (hd : decode cc pc = .ok (.putfield idx, 3)) (ha : a < mN M) (hka : mK M a = ci) (kk : V z (pc + 3) lv st (stI M a k x) nc ns) : V z pc lv (.int x :: .ref a :: st) M nc ns :=
  v_putXF hz hf ht hin2 hnr hfit hd ha hka (List.getElem?_eq_some_iff.mp hb).1 (w_fld (M' := stI M a k x) hci hka hb rfl (fun _ => rfl) (fun _ => rfl) (fun _ _ _ => rfl) (fun _ _ h => up2_ne h) (fun _ _ => rfl) (by simp [fv, mI_stI])) rfl rfl kk
theorem v_putRF (hz : Zok z fx al own nm cc rt nL r mc ms rv N) {idx ci k a b : Nat} {ty : FieldType} (hf : FL own idx ci k) (ht : FT ci k ty true own) (hin2 : nm = "<init>") (hci : ci < 13) (hb : (fk ci)[k]? = some true) (hnr : ∀ q, narrow ty (.ref q) = .ref q) (hfit : ∀ q, fits ty (.ref q) = true) (hd : decode cc pc = .ok (.putfield idx, 3)) (ha : a < mN M) (hka : mK M a = ci) (kk : V z (pc + 3) lv st (stR M a k (some b)) nc ns) : V z pc lv (.ref b :: .ref a :: st) M nc ns :=
  v_putXF hz hf ht hin2 (hnr _) (hfit _) hd ha hka (List.getElem?_eq_some_iff.mp hb).1 (w_fld (M' := stR M a k (some b)) (v := .ref (z.ad b)) hci hka hb rfl (fun _ => rfl) (fun _ => rfl) (fun _ _ h => up2_ne h) (fun _ _ _ => rfl) (fun _ _ => rfl) (by simp [fv, mR_stR, va_rf])) rfl rfl kk
end RULES2
