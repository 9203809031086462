section NEWS
variable {z : Zx} {fx : Fx} {al : Bool} {own nm : String} {cc : ByteArray} {rt : Option FieldType} {nL r mc ms : Nat} {rv : Option Value} {N : Mem} {pc : Nat} {lv : List (Option Value)} {st : List Value} {M : Mem} {nc ns : Nat}
theorem ent_alc {cy : Nat → ClassId} {ad : Nat → Nat} {c n j : Nat} (h : j < mN M) : ent cy ad (alc M c n) j = ent cy ad M j := by
  have hne : j ≠ mN M := by omega
  exact ent_same (by rw [mK_alc, if_neg hne]) (by rw [mG_alc, if_neg hne]) (fun i => by rw [mR_alc, if_neg hne]) (fun i => by rw [mI_alc, if_neg hne]) (fun i => by rw [mL_alc, if_neg hne])
/-- a new cell stands in the world -/
theorem w_new (hal : z.al = true) {H H1 : Heap} {locs : List Loc} {c n : Nat} (hw : Wd z M H locs) (z1 : H1.size = H.size + 1) (o1 : ∀ q, q < H.size → H1[q]? = H[q]?) (hat : va_at z.D vwCl (z.ad (mN M), ent z.cy z.ad (alc M c n) (mN M)) H1) : Wd z (alc M c n) H1 locs := by
  have hS := hw.2.1
  refine ⟨?_, ⟨Nat.le_trans hS.1 (by omega), fun x h1 h2 => (o1 x (Nat.lt_of_lt_of_le h1 hS.1)).trans (hS.2.1 x h1 h2), hS.2.2⟩, fun _ j => ?_⟩
  · rw [← wl_push (M := M) (M' := alc M c n) rfl (fun j hj => ent_alc hj) rfl]
    refine (hw.1.kept fun k q hk => o1 q.1 ((hw.1 k q hk).lt)).app (fun k q hk => ?_)
    have hz : k < 1 := (List.getElem?_eq_some_iff.mp hk).1
    rw [show k = 0 by omega] at hk
    cases hk
    exact hat
  · rw [mN_alc, z1, Nat.add_assoc, hw.2.2 hal (1 + j)]
    omega
def NW (own : String) (idx ci n : Nat) : Prop := ∃ (C : String) (T : u_T) (ty : Nat → FieldType), vwCl[ci]? = some (C, T, n) ∧ ci < 13 ∧ Cond.classLink own idx C ∈ BIG ∧ Cond.instantiable C n ∈ BIG ∧ Cond.initialized C ∈ BIG ∧ (∀ w ∈ u_ws C T n, w ∈ BIG) ∧ (∀ j, j < n → parseFieldDescriptor (T j).2.2.1 = some (ty j)) ∧ (fk ci).length = n ∧ ∀ j, j < n → defaultValue (ty j) = if (fk ci).getD j false = true then .null else .int 0
theorem v_new (hz : Zok z fx true own nm cc rt nL r mc ms rv N) {idx ci n : Nat} (hv : NW own idx ci n) (hnc : nc + 1 ≤ mc) (hns : ns + n ≤ ms) (hd : decode cc pc = .ok (.new idx, 3)) (kk : V z (pc + 3) lv (.ref (mN M) :: st) (alc M ci 0) (nc + 1) (ns + n)) : V z pc lv st M nc ns := by
  intro H locs ls hw hl
  obtain ⟨C, T, ty, hc, hci, w1, w2, w3, hin, hty, hfl, hdf⟩ := hv
  have hKn := hz.K.1 ci _ hc
  have h0 := hw.2.2 hz.eal 0
  refine W.newcK hz.exec hz.code hz.hown (hz.ts _ w1) (hz.ts _ w2) (hz.ts _ w3) rfl hd (Nat.le_trans hnc hz.rc) (Nat.le_trans hns hz.rs) hKn.2.1 (h := z.ad (mN M)) (by rw [Nat.add_zero] at h0; exact h0.symm) fun H1 kC hkC e1 z1 o1 => ?_
  have hsz : z.ad (mN M) = H.size := by simpa using h0
  refine kk H1 locs ls (w_new hz.eal hw (by rw [z1, hsz]) (fun q hq => o1 q (by rw [hsz]; exact hq)) ?_) hl
  rw [ent_obj (c := ci) (by rw [mK_alc, if_pos rfl]) hci]
  refine ⟨_, hc, (u_born ty hz.ts hin hKn hkC e1 hty).to fun j hj => ?_⟩
  have hb : (fk ci)[j]? = some ((fk ci).getD j false) := by
    have : j < (fk ci).length := by omega
    simp [this]
  have hfd : vp_V (flds z.ad (alc M ci 0) (mN M) (fk ci)) j = fv z.ad (alc M ci 0) (mN M) j ((fk ci).getD j false) := by
    simp only [vp_V, List.getD_eq_getElem?_getD]
    rw [flds_at hb, List.getD_eq_getElem?_getD]
    rfl
  show defaultValue (ty j) = vp_V (flds z.ad (alc M ci 0) (mN M) (fk ci)) j
  rw [hdf j hj, hfd]
  by_cases hq : (fk ci).getD j false = true
  · rw [if_pos hq, hq]
    simp [fv, mR_alc, va_rf]
  · have hq' : (fk ci).getD j false = false := by simpa using hq
    rw [hq']
    simp [fv, mI_alc]
theorem v_newI (hz : Zok z fx true own nm cc rt nL r mc ms rv N) {c t0 : Nat} {at0 : ArrayType} {n : Int32} {N' : Nat} (hw0 : Cond.arrayClass (newarray.typeOf at0) ∈ BIG) (hc : (c = 13 ∧ at0 = .byte) ∨ (c = 14 ∧ at0 = .int) ∨ (c = 16 ∧ at0 = .boolean)) (hn : ¬ n < 0) (hN : n.toNatClampNeg = N') (hbig : N' ≤ 1000) (hnc : nc + 1 ≤ mc) (hns : ns + N' ≤ ms) (hd : decode cc pc = .ok (.newarray at0, 2)) (kk : V z (pc + 2) lv (.ref (mN M) :: st) (alc M c N') (nc + 1) (ns + N')) : V z pc lv (.int n :: st) M nc ns := by
  intro H locs ls hw hl
  have h0 := hw.2.2 hz.eal 0
  have hsz : z.ad (mN M) = H.size := by simpa using h0
  have hc3 : c = 13 ∨ c = 14 ∨ c = 16 := by rcases hc with h | h | h <;> simp [h.1]
  refine va_newaK hz.exec hz.code (hz.ts _ hw0) rfl hd rfl hn hN (by rcases hc with ⟨-, rfl⟩ | ⟨-, rfl⟩ | ⟨-, rfl⟩ <;> simp [newarray.typeOf, componentBytes] <;> omega) (Nat.le_trans hnc hz.rc) (Nat.le_trans hns hz.rs) (h := z.ad (mN M)) hsz.symm fun H1 cA e1 z1 o1 hA hf => ?_
  have hcA : cA = z.cy c ∧ defaultValue (newarray.typeOf at0) = .int 0 := by
    rcases hc with ⟨rfl, rfl⟩ | ⟨rfl, rfl⟩ | ⟨rfl, rfl⟩
    · exact ⟨Option.some.inj (hf.symm.trans (hz.K.2 0 _ rfl).2), rfl⟩
    · exact ⟨Option.some.inj (hf.symm.trans (hz.K.2 1 _ rfl).2), rfl⟩
    · exact ⟨Option.some.inj (hf.symm.trans (hz.K.2 3 _ rfl).2), rfl⟩
  refine kk H1 locs ls (w_new hz.eal hw (by rw [z1, hsz]) (fun q hq => o1 q (by rw [hsz]; exact hq)) ?_) hl
  rw [ent_ints (c := c) (by rw [mK_alc, if_pos rfl]) hc3, mG_alc, if_pos rfl]
  show H1[z.ad (mN M)]? = some (vp_cell _ _)
  rw [e1, hcA.1, hcA.2, vp_cell_i]
  have : mI (alc M c N') (mN M) = fun _ => 0 := by
    funext j
    simp [mI_alc]
  rw [this]
theorem v_newL (hz : Zok z fx true own nm cc rt nL r mc ms rv N) {n : Int32} {N' : Nat} (hw0 : Cond.arrayClass (newarray.typeOf .long) ∈ BIG) (hn : ¬ n < 0) (hN : n.toNatClampNeg = N') (hbig : N' ≤ 1000) (hnc : nc + 1 ≤ mc) (hns : ns + N' ≤ ms) (hd : decode cc pc = .ok (.newarray .long, 2)) (kk : V z (pc + 2) lv (.ref (mN M) :: st) (alc M 15 N') (nc + 1) (ns + N')) : V z pc lv (.int n :: st) M nc ns := by
  intro H locs ls hw hl
  have h0 := hw.2.2 hz.eal 0
  have hsz : z.ad (mN M) = H.size := by simpa using h0
  refine va_newaK hz.exec hz.code (hz.ts _ hw0) rfl hd rfl hn hN (by simp [newarray.typeOf, componentBytes]; omega) (Nat.le_trans hnc hz.rc) (Nat.le_trans hns hz.rs) (h := z.ad (mN M)) hsz.symm fun H1 cA e1 z1 o1 hA hf => ?_
  have hcA : cA = z.cy 15 := Option.some.inj (hf.symm.trans (hz.K.2 2 _ rfl).2)
  refine kk H1 locs ls (w_new hz.eal hw (by rw [z1, hsz]) (fun q hq => o1 q (by rw [hsz]; exact hq)) ?_) hl
  rw [ent_longs (by rw [mK_alc, if_pos rfl]), mG_alc, if_pos rfl]
  show H1[z.ad (mN M)]? = some (vp_cell _ _)
  rw [e1, hcA, vp_cell_l]
  have : mL (alc M 15 N') (mN M) = fun _ => 0 := by
    funext j
    simp [mL_alc]
  rw [this]
  rfl
theorem v_anew (hz : Zok z fx true own nm cc rt nL r mc ms rv N) {idx : Nat} {n : Int32} {N' : Nat} (hw0 : Cond.classLink own idx "CarpetsLaw$Walker" ∈ BIG) (hn : ¬ n < 0) (hN : n.toNatClampNeg = N') (hbig : N' ≤ 1000) (hnc : nc + 1 ≤ mc) (hns : ns + N' ≤ ms) (hd : decode cc pc = .ok (.anewarray idx, 3)) (kk : V z (pc + 3) lv (.ref (mN M) :: st) (alc M 17 N') (nc + 1) (ns + N')) : V z pc lv (.int n :: st) M nc ns := by
  intro H locs ls hw hl
  have h0 := hw.2.2 hz.eal 0
  have hsz : z.ad (mN M) = H.size := by simpa using h0
  subst hN
  refine W.anew hz.exec hz.code hz.hown (hz.ts _ hw0) (va_AO.use hz.ext.2.2.2.1) rfl hd rfl hn (by omega) (Nat.le_trans hnc hz.rc) (Nat.le_trans hns hz.rs) fun cA kA comp f1 f2 f3 f4 => ?_
  generalize hH1 : H.push ({ cls := cA, slots := Array.replicate n.toNatClampNeg .null, vm := .none } : Cell) = H1
  have z1 : H1.size = H.size + 1 := by rw [← hH1, Array.size_push]
  have e1 : H1[H.size]? = some (arrV cA n.toNatClampNeg (fun _ => .null)) := by rw [← hH1, Array.getElem?_push_size, ← arrV_new]
  have o1 : ∀ q : Nat, q < H.size → H1[q]? = H[q]? := fun q hq => by rw [← hH1, Array.getElem?_push, if_neg (Nat.ne_of_lt hq)]
  obtain ⟨kA', comp', k1, k2, k3, k4⟩ := (hz.K.2 4 _ rfl).2
  have hcA : cA = z.cy 17 := Option.some.inj (f1.symm.trans k4)
  have key : W z.p z.l z.e z.R z.s z.m z.a z.b z.mt z.c H1 locs (nc + 1) (ns + n.toNatClampNeg) z.Q (F0 z.m (pc + 3) ls ((Value.ref (mN M) :: st).map (tv z.ad z.ex))) := by
    refine kk H1 locs ls (w_new hz.eal hw z1 o1 ?_) hl
    rw [ent_refs (by rw [mK_alc, if_pos rfl]), mG_alc, if_pos rfl]
    show H1[z.ad (mN M)]? = some (vp_cell _ _)
    rw [hsz, e1, hcA, vp_cell_q]
    congr 2
    funext j
    simp [mR_alc, va_rf]
  have e : (Value.ref (mN M) :: st).map (tv z.ad z.ex) = Value.ref H.size :: st.map (tv z.ad z.ex) := by
    rw [List.map_cons, ← hsz]
    rfl
  rw [e] at key
  exact key
theorem v_aastore (hz : Zok z fx al own nm cc rt nL r mc ms rv N) {a v ci : Nat} {C : String} {T : u_T} {k : Nat} {i : Int32} (hd : decode cc pc = .ok (.aastore, 1)) (ha : a < mN M) (hk : mK M a = 17) (hin : inb i (mG M a) = true) (hv : v < mN M) (hkv : mK M v = ci) (hci13 : ci < 13) (hci : vwCl[ci]? = some (C, T, k)) (hC : C = "CarpetsLaw$Walker" ∨ C ∈ xCast) (kk : V z (pc + 1) lv st (stR M a i.toNatClampNeg (some v)) nc ns) : V z pc lv (.ref v :: .int i :: .ref a :: st) M nc ns := by
  intro H locs ls hw hl
  have he := wl_get (cy := z.cy) (ad := z.ad) ha
  have hev := wl_get (cy := z.cy) (ad := z.ad) hv
  rw [ent_refs hk] at he
  rw [ent_obj hkv hci13] at hev
  have hD := hz.D M
  have hin' := inb_in hin
  have hlt : i.toNatClampNeg < mG M a := Nat.not_le.mp fun q => hin' (Or.inr q)
  have h0 : ¬ i < 0 := fun q => hin' (Or.inl q)
  obtain ⟨r', hr', cellV, g1, g2, g3, -⟩ := hw.1 v _ hev
  have hcls := (hz.K.1 ci _ hci).2
  obtain ⟨kA, comp, k1, k2, k3, -⟩ := (hz.K.2 4 _ rfl).2
  obtain ⟨kE, hkE, -⟩ := Vm.findClass_spec k3
  obtain ⟨kC, hkC, hkk⟩ := hcls.2
  have hasg : z.s.vm.assignable (z.D.1 ci) comp = true := by
    rcases hC with rfl | hC
    · have : comp = z.D.1 ci := Option.some.inj (k3.symm.trans hcls.1)
      rw [this]
      exact va_assign hcls
    · obtain ⟨c0, t1, f1, f2, f3⟩ := Cond.castable_spec (va_Nw.use (A := z.a) rfl (hz.ext.2.1 C hC))
      have e1 : z.D.1 ci = c0 := Option.some.inj (hcls.1.symm.trans f1)
      have e2 : comp = t1 := Option.some.inj (k3.symm.trans f2)
      rw [e1, e2]
      exact f3
  refine W.aast hz.exec hz.code (hw.1 a _ he) (fun q h => by cases h) (fun h => by cases h) k1 k2 rfl hkE ⟨h0, by show _ < (arrV _ _ _).slots.size; rw [arrV_size]; exact hlt⟩ g1 (fun q h => by rw [g3] at h; cases h) (by rw [g2]; exact hkC) (by rw [g2]; exact hasg) rfl rfl hd fun H1 e z1 oq => ?_
  have hat : va_at z.D vwCl (z.ad a, .inl (z.cy 17, (mG M a, .inr (.inr (.inr (.inr (va_up (fun j => (mR M a j).map z.ad) i.toNatClampNeg (some (z.ad v))))))))) H1 := by
    show H1[z.ad a]? = some (vp_cell _ _)
    rw [e, vp_cell_q, vp_cell_q, arrV_store]
    congr 2
    funext q
    by_cases hq : q = i.toNatClampNeg
    · subst hq
      simp [updV, va_up, va_rf]
    · simp [updV, va_up, hq]
  have hP' := hw.1.set hD he hat oq
  rw [w_arr (M := M) (M' := stR M a i.toNatClampNeg (some v)) rfl (fun _ => rfl) (fun _ => rfl) (fun b hb j => up2_ne (Or.inl hb)) (fun _ _ _ => rfl) (fun _ _ _ => rfl) (by
    rw [ent_refs (M := stR M a i.toNatClampNeg (some v)) hk]
    have : (fun j => (mR (stR M a i.toNatClampNeg (some v)) a j).map z.ad) = va_up (fun j => (mR M a j).map z.ad) i.toNatClampNeg (some (z.ad v)) := by
      funext j
      by_cases hj : j = i.toNatClampNeg <;> simp [mR_stR, va_up, hj]
    rw [this]
    rfl)] at hP'
  exact kk H1 _ ls ⟨hP', hw.2.1.put z1 oq (hD.2 a _ he), fun hal j => by rw [mN_stR, z1]; exact hw.2.2 hal j⟩ hl
theorem v_instY (hz : Zok z fx al own nm cc rt nL r mc ms rv N) {idx a : Nat} (hw0 : Cond.classLink own idx "CarpetsLaw$Told" ∈ BIG) (hd : decode cc pc = .ok (.instanceof idx, 3)) (ha : a < mN M) (hk : mK M a = 8) (kk : V z (pc + 3) lv (.int 1 :: st) M nc ns) : V z pc lv (.ref a :: st) M nc ns := by
  intro H locs ls hw hl
  have he := wl_get (cy := z.cy) (ad := z.ad) ha
  rw [ent_obj hk (by decide)] at he
  have hr := va_recv hz.K hw.1 (ci := 8) (q0 := a) (q := (RX8, TX8, 0)) rfl he
  exact va_instS hz.exec hz.code hz.hown (hz.ts _ hw0) (hz.K.1 8 (RX8, TX8, 0) rfl).2 hr hd (kk H locs ls hw hl)
theorem v_instN (hz : Zok z fx al own nm cc rt nL r mc ms rv N) {idx a ci : Nat} {C : String} {T : u_T} {k : Nat} (hw0 : Cond.classLink own idx "CarpetsLaw$Told" ∈ BIG) (hd : decode cc pc = .ok (.instanceof idx, 3)) (ha : a < mN M) (hk : mK M a = ci) (hci13 : ci < 13) (hci : vwCl[ci]? = some (C, T, k)) (hC : C ∈ xNot) (kk : V z (pc + 3) lv (.int 0 :: st) M nc ns) : V z pc lv (.ref a :: st) M nc ns := by
  intro H locs ls hw hl
  have he := wl_get (cy := z.cy) (ad := z.ad) ha
  rw [ent_obj hk hci13] at he
  have hr := va_recv hz.K hw.1 (ci := ci) (q0 := a) hci he
  exact va_instNo hz.exec hz.code hz.hown (hz.ts _ hw0) (hz.ext.2.2.1 C hC) hr hd (kk H locs ls hw hl)
theorem v_getKA (hz : Zok z fx al own nm cc rt nL r mc ms rv N) {idx : Nat} (hw0 : Cond.fieldLink own idx "CarpetsLaw" "KIND_ABOVE" "[I" ∈ BIG) (hd : decode cc pc = .ok (.getstatic idx, 3)) (kk : V z (pc + 3) lv (.retAddr 20 :: st) M nc ns) : V z pc lv st M nc ns := by
  intro H locs ls hw hl
  exact va_gets hz.exec hz.code hz.ext.2.2.2.2.2.2.2.1 hw.2.1 hz.hown (hz.ts _ hw0) (fun _ h => h) hd (kk H locs ls hw hl)
theorem v_kaload (hz : Zok z fx al own nm cc rt nL r mc ms rv N) {i : Int32} (hd : decode cc pc = .ok (.iaload, 1)) (hin : inb i 7 = true) (kk : V z (pc + 1) lv (.int (xAbove.getD i.toNatClampNeg 0) :: st) M nc ns) : V z pc lv (.int i :: .retAddr 20 :: st) M nc ns := by
  intro H locs ls hw hl
  exact va_ti hz.exec hz.code hz.ext.2.2.2.2.2.2.2.2.1 hw.2.1 (inb_in hin) rfl hd (kk H locs ls hw hl)
end NEWS
