section MORE
variable {z : Zx} {fx : Fx} {al : Bool} {own nm : String} {cc : ByteArray} {rt : Option FieldType} {nL r mc ms : Nat} {rv : Option Value} {N : Mem} {pc : Nat} {lv : List (Option Value)} {st : List Value} {M : Mem} {nc ns : Nat}
theorem v_callSU (hz : Zok z fx al own nm cc rt nL (r + 1) mc ms rv N) {idx ci n maxL b mc1 ms1 : Nat} {C : String} {T0 : u_T} {k : Nat} {x y : MethodName} {c1 : ByteArray} {rt1 : Option FieldType} {As : List Value} {rv1 : Option Value} {M1 : Mem} {st0 : List Value}
    (hv : UPL own idx x y c1 maxL rt1 n) (hM : Ct fx y c1 maxL rt1 r mc1 ms1 al (.ref b :: As) M rv1 M1) (hci : vwCl[ci]? = some (C, T0, k)) (hci13 : ci < 13) (hb : b < mN M) (hkb : mK M b = ci) (hn : As.length = n) (hll : lv.length = nL) (hst0 : st0 = As.reverse ++ .ref b :: st) (hroom : (st.map fun v => v.category).sum ≤ 8) (hc : nc + mc1 ≤ mc ∧ ns + ms1 ≤ ms) (hd : decode cc pc = .ok (.invokespecial idx, 3))
    (kk : V z (pc + 3) lv (rv1.toList ++ st) M1 (nc + mc1) (ns + ms1)) : V z pc lv st0 M nc ns := by
  obtain ⟨w1, w2, w3, w4, w5, w6, w7, hyx, hno, hdn, hml⟩ := hv
  refine v_run (ar := (Value.ref (z.ad b) :: As.map (tv z.ad z.ex)).toArray) (fun H locs ls hw hl => ?_) kk
  have he := wl_get (cy := z.cy) (ad := z.ad) hb
  rw [ent_obj hkb hci13] at he
  rw [← hz.efx, ← hz.eal] at hM
  have hM' := hM z.ad hz.inj
  rw [← hz.el] at hM'
  have hg : ∀ w ∈ Cond.code y c1 maxL rt1 :: BIG, w ∈ BIG := fun w h => (List.mem_cons.mp h).elim (fun e => e ▸ w7) id
  have hrk := rk_le (r := r) (mc := mc) (ms := ms) (mc1 := mc1) (ms1 := ms1) hml
  have hini := hz.ts _ w6
  have hK : Back z.l z.R z.p z.e z.b z.s z.a y 3 8 (PreOf z.R mc1 ms1 (va_Pc ((Value.ref b :: As).map (tv z.ad z.ex)) (Px z.fx z.ad z.al M))) (PostOf (Qx z.fx z.ad z.al rv1 M1) mc1 ms1 (Ad z.ad)) := back_of (bytes := c1) (maxL := maxL) (ret := rt1) hM' Px_blind rfl rfl (by rw [hz.room]; exact hrk.1) (by rw [hz.room]; exact hrk.2) (pay_in hz.ts (big_ws hg)) List.mem_cons_self (fun a' U hW => word_at hW (Or.inl (by first | rfl | simp [Cond.onTables, Cond.keeps, Cond.steady])) hini)
  obtain ⟨cellB, hcB, hoB, hclB⟩ := va_recv hz.K hw.1 (ci := ci) (q0 := b) hci he
  obtain ⟨-, hfc, kB, hkB, -⟩ := hz.K.1 ci _ hci
  have hcl2 : z.D.1 ci = cellB.cls := Option.some.inj (hfc.symm.trans hclB)
  rw [hcl2] at hkB
  obtain ⟨mk, methM, hnamed, hmethM, hstM, habM⟩ := Cond.instanceMethod_spec (hz.ts _ w5)
  obtain ⟨methM', cM, hmethM', -, -, -, -, -, -, hsigM⟩ := Cond.code_spec hnamed (hz.ts _ w7)
  cases hmethM.symm.trans hmethM'
  obtain ⟨ps, dk, kp, hps, hdk, hkp, hsuper, -, -, hnid⟩ := Cond.superclass_spec hz.hown (hz.ts _ w3)
  have hn2 : z.s.methodNamed? ⟨y.cls, x.name, x.desc⟩ = some mk := by rw [← hyx]; exact hnamed
  have hfy := findClass_of_methodNamed hnamed
  have hsub : z.s.vm.isSubclass ps mk.cls = true := by
    rcases w4 with e | w4
    · rw [e] at hps
      have hpm : ps = mk.cls := Option.some.inj (hps.symm.trans hfy)
      rw [hpm]
      simp [Vm.isSubclass, Vm.isSubclassAux]
    · obtain ⟨ps2, dk2, kp2, hps2, hdk2, hkp2, hsuper2, -⟩ := Cond.superclass_spec hps (hz.ts _ w4)
      have hpm : ps2 = mk.cls := Option.some.inj (hps2.symm.trans hfy)
      subst hpm
      have hsz : 0 < z.s.vm.classes.size := Nat.lt_of_le_of_lt (Nat.zero_le _) (Array.getElem?_eq_some_iff.mp hdk2).1
      obtain ⟨q, hq⟩ : ∃ q, z.s.vm.classes.size = q + 1 := ⟨z.s.vm.classes.size - 1, by omega⟩
      simp [Vm.isSubclass, Vm.isSubclassAux, hq, hdk2, hsuper2]
  intro T hT X
  have hsz0 : (F0 z.m pc ls (st0.map (tv z.ad z.ex))).locals.size = z.c.maxLocals := (hl.1.trans hll).trans hz.nl.symm
  obtain ⟨vm₁, X₁, hstep₁⟩ := X.invokespecialUp hz.exec hz.hown (hz.ts _ w1) (hz.ts _ w2) hn2 hmethM hstM habM hno hdk hnid hps hsuper hsub (a := z.ad b) (cell := cellB) (by rw [hT]; exact hcB)
    (fun z h => by rw [h] at hoB; cases hoB) hkB (g := F0 z.m pc ls (st0.map (tv z.ad z.ex))) rfl (argsL := As.map (tv z.ad z.ex)) (rest := st.map (tv z.ad z.ex)) (by rw [List.length_map, hn]; have h2 := hdn; rw [hsigM] at h2; exact (Option.some.inj h2).symm) (by rw [hst0]; simp [tv]) (by rw [hz.code]; exact hd)
  obtain ⟨v, ⟨U', l2, c2, s2⟩, X', ⟨g', mk', t, L, e1, e2, hq, h1, hL, h2, h3⟩, hsteps⟩ := hK z.m z.mt z.c ⟨T.setVm vm₁, locs, nc, ns⟩ { F0 z.m pc ls (st0.map (tv z.ad z.ex)) with stack := st.map (tv z.ad z.ex) } (.invokespecial idx) mk (Value.ref (z.ad b) :: As.map (tv z.ad z.ex)).toArray X₁ rfl hsz0 (by rw [hz.code]; exact hd) (lv_room (by simpa [Function.comp_def, tv_cat] using hroom)) (X₁.named hnamed)
    ⟨by rw [hz.room]; exact hc.1, by rw [hz.room]; exact hc.2, by rw [List.map_cons]; rfl, Px_at hz hw hT X₁.warmed⟩
  dsimp only [Pt.U, Pt.locs, Pt.cells, Pt.slots] at X' e1 e2 h1 h2 h3 hsteps
  subst h1; subst h2; subst h3
  exact ⟨v, (T.setVm vm₁).calling g' mk' (Value.ref (z.ad b) :: As.map (tv z.ad z.ex)).toArray, t, U', L, hT, X', hL, e1, e2, hq, fun target h => hstep₁ _ (by rw [doInvoke_state]; exact hsteps.trans h)⟩
theorem v_objInit (hz : Zok z fx al own nm cc rt nL (r + 1) mc ms rv N) {idx a : Nat} (w1 : Cond.methodLink own idx objectInit ∈ BIG) (w2 : Cond.instanceMethod objectInit ∈ BIG) (w3 : Cond.code objectInit ⟨#[0xb1]⟩ 1 none ∈ BIG) (hll : lv.length = nL) (hst : st = []) (hd : decode cc pc = .ok (.invokespecial idx, 3)) (kk : V z (pc + 3) lv st M nc ns) : V z pc lv (.ref a :: st) M nc ns := by
  intro H locs ls hw hl
  subst hst
  exact W.objInit hz.exec hz.code hz.hown (hz.ts _ w1) (hz.ts _ w2) (hz.ts _ w3) rfl ((hl.1.trans hll).trans hz.nl.symm) rfl hd (by rw [hz.room]; exact Nat.le_add_left _ _) (by rw [hz.room]; show _ ≤ 40 * (r + 1); simp [JFrame.monitorRoom]; omega) (kk H locs ls hw hl)
def ML (own : String) (idx : Nat) (y : MethodName) (c : ByteArray) : Prop := Cond.methodLink own idx y ∈ BIG ∧ Cond.static y ∈ BIG ∧ Cond.initialized "java/lang/Math" ∈ BIG ∧ Cond.code y c 2 (some .int) ∈ BIG
theorem v_mmax (hz : Zok z fx al own nm cc rt nL (r + 1) mc ms rv N) {idx : Nat} {x y : Int32} (hv : ML own idx Lib.Math.max.name Lib.Math.max.code) (hll : lv.length = nL) (hroom : (st.map fun v => v.category).sum ≤ 8) (hnc : nc ≤ mc) (hns : ns ≤ ms) (hd : decode cc pc = .ok (.invokestatic idx, 3)) (kk : V z (pc + 3) lv (.int (if x < y then y else x) :: st) M nc ns) : V z pc lv (.int y :: .int x :: st) M nc ns := by
  intro H locs ls hw hl
  obtain ⟨w1, w2, w3, w4⟩ := hv
  exact va_mmax hz.exec hz.code (hz.nl.trans (hl.1.trans hll).symm) hz.hown (hz.ts _ w1) (hz.ts _ w2) (hz.ts _ w3) (hz.ts _ w4) (by rw [hz.room]; exact Nat.le_add_left _ _) (by rw [hz.room]; have h : ((st.map (tv z.ad z.ex)).map fun v => v.category).sum ≤ 8 := (by simpa [Function.comp_def, tv_cat] using hroom); show _ ≤ 40 * (r + 1); omega) (by rw [hz.room]; exact hnc) (by rw [hz.room]; exact hns) hd (kk H locs ls hw hl)
theorem v_mmin (hz : Zok z fx al own nm cc rt nL (r + 1) mc ms rv N) {idx : Nat} {x y : Int32} (hv : ML own idx Lib.Math.min.name Lib.Math.min.code) (hll : lv.length = nL) (hroom : (st.map fun v => v.category).sum ≤ 8) (hnc : nc ≤ mc) (hns : ns ≤ ms) (hd : decode cc pc = .ok (.invokestatic idx, 3)) (kk : V z (pc + 3) lv (.int (if y < x then y else x) :: st) M nc ns) : V z pc lv (.int y :: .int x :: st) M nc ns := by
  intro H locs ls hw hl
  obtain ⟨w1, w2, w3, w4⟩ := hv
  exact va_mmin hz.exec hz.code (hz.nl.trans (hl.1.trans hll).symm) hz.hown (hz.ts _ w1) (hz.ts _ w2) (hz.ts _ w3) (hz.ts _ w4) (by rw [hz.room]; exact Nat.le_add_left _ _) (by rw [hz.room]; have h : ((st.map (tv z.ad z.ex)).map fun v => v.category).sum ≤ 8 := (by simpa [Function.comp_def, tv_cat] using hroom); show _ ≤ 40 * (r + 1); omega) (by rw [hz.room]; exact hnc) (by rw [hz.room]; exact hns) hd (kk H locs ls hw hl)
/-- a stretch of a row copied -/
def CL (own : String) (idx : Nat) : Prop := Cond.methodLink own idx arraycopyName ∈ BIG ∧ Cond.native arraycopyName ∈ BIG ∧ Cond.static arraycopyName ∈ BIG ∧ Cond.initialized "java/lang/System" ∈ BIG
def cpok (sp dp n : Int32) (n0 n1 : Nat) : Bool := !(decide (sp < 0)) && !(decide (dp < 0)) && !(decide (n < 0)) && decide (sp.toNatClampNeg + n.toNatClampNeg ≤ n0) && decide (dp.toNatClampNeg + n.toNatClampNeg ≤ n1)
theorem cpok_of {sp dp n : Int32} {n0 n1 : Nat} (h : cpok sp dp n n0 n1 = true) : ¬ sp < 0 ∧ ¬ dp < 0 ∧ ¬ n < 0 ∧ sp.toNatClampNeg + n.toNatClampNeg ≤ n0 ∧ dp.toNatClampNeg + n.toNatClampNeg ≤ n1 := by
  simpa [cpok, and_assoc] using h
theorem cp_room (h : (st.map fun v => v.category).sum ≤ 8) (hz : Zok z fx al own nm cc rt nL (r + 1) mc ms rv N) : ((st.map (tv z.ad z.ex)).map fun v => v.category).sum + (nativeFrameWords "java/lang/System" "arraycopy" 5 + 11) ≤ z.R.locals := by
  have h' : ((st.map (tv z.ad z.ex)).map fun v => v.category).sum ≤ 8 := by simpa [Function.comp_def, tv_cat] using h
  have h2 : nativeFrameWords "java/lang/System" "arraycopy" 5 + 11 ≤ 32 := by decide +kernel
  rw [hz.room]
  show _ ≤ 40 * (r + 1)
  omega
theorem v_copyI (hz : Zok z fx false own nm cc rt nL (r + 1) mc ms rv N) {idx a b c : Nat} {sp dp n : Int32} (hv : CL own idx) (hc : c = 14 ∨ (c = 16 ∧ ∀ i, i < n.toNatClampNeg → (mI M a (sp.toNatClampNeg + i) = 0 ∨ mI M a (sp.toNatClampNeg + i) = 1))) (hll : lv.length = nL) (ha : a < mN M) (hka : mK M a = c) (hb : b < mN M) (hkb : mK M b = c) (hok : cpok sp dp n (mG M a) (mG M b) = true) (hroom : (st.map fun v => v.category).sum ≤ 8) (hd : decode cc pc = .ok (.invokestatic idx, 3))
    (kk : V z (pc + 3) lv st (cpI M a b sp.toNatClampNeg dp.toNatClampNeg n.toNatClampNeg) nc ns) : V z pc lv (.int n :: .int dp :: .ref b :: .int sp :: .ref a :: st) M nc ns := by
  intro H locs ls hw hl
  obtain ⟨w1, w2, w3, w4⟩ := hv
  obtain ⟨o1, o2, o3, o4, o5⟩ := cpok_of hok
  have hc3 : c = 13 ∨ c = 14 ∨ c = 16 := hc.elim (fun h => Or.inr (Or.inl h)) (fun h => Or.inr (Or.inr h.1))
  have hea := wl_get (cy := z.cy) (ad := z.ad) ha
  have heb := wl_get (cy := z.cy) (ad := z.ad) hb
  rw [ent_ints hka hc3] at hea
  rw [ent_ints hkb hc3] at heb
  obtain ⟨t0, ty, ht, hprim, hfit⟩ : ∃ (t0 : Nat) (ty : FieldType), (tysF z.cy)[t0]? = some (z.cy c, ty) ∧ refKind ty = false ∧ ∀ i, i < n.toNatClampNeg → fits ty (.int (mI M a (sp.toNatClampNeg + i))) = true := by
    rcases hc with rfl | ⟨rfl, h⟩
    · exact ⟨1, .int, rfl, rfl, fun _ _ => rfl⟩
    · exact ⟨3, .boolean, rfl, rfl, fun i hi => by rcases h i hi with e | e <;> simp [fits, e]⟩
  refine va_copyi hz.exec hz.code (hz.nl.trans (hl.1.trans hll).symm) hz.hown (hz.ts _ w1) (hz.ts _ w2) (hz.ts _ w3) (hz.ts _ w4) hz.K hw.1 (hz.D M) hw.2.1 a b t0 t0 hea heb ht ht hprim o1 o2 o3 o4 o5 hfit (by rw [hz.room]; exact Nat.le_add_left _ _) (cp_room hroom hz) hd (fun H1 locs1 hP hD hS => ?_)
  rw [w_arr (M := M) (M' := cpI M a b sp.toNatClampNeg dp.toNatClampNeg n.toNatClampNeg) rfl (fun _ => rfl) (fun _ => rfl) (fun _ _ _ => rfl) (fun q hq j => if_neg (fun h => hq h.1)) (fun _ _ _ => rfl) (by
    rw [ent_ints (M := cpI M a b sp.toNatClampNeg dp.toNatClampNeg n.toNatClampNeg) hkb hc3]
    have : mI (cpI M a b sp.toNatClampNeg dp.toNatClampNeg n.toNatClampNeg) b = va_cpy (mI M a) (mI M b) sp.toNatClampNeg dp.toNatClampNeg n.toNatClampNeg := by
      funext j
      simp [mI_cpI, va_cpy]
    rw [this]
    rfl)] at hP
  exact kk H1 locs1 ls ⟨hP, hS, fun hal => by rw [hz.eal] at hal; cases hal⟩ hl
theorem v_copyL (hz : Zok z fx false own nm cc rt nL (r + 1) mc ms rv N) {idx a b : Nat} {sp dp n : Int32} (hv : CL own idx) (hll : lv.length = nL) (ha : a < mN M) (hka : mK M a = 15) (hb : b < mN M) (hkb : mK M b = 15) (hok : cpok sp dp n (mG M a) (mG M b) = true) (hroom : (st.map fun v => v.category).sum ≤ 8) (hd : decode cc pc = .ok (.invokestatic idx, 3))
    (kk : V z (pc + 3) lv st (cpL M a b sp.toNatClampNeg dp.toNatClampNeg n.toNatClampNeg) nc ns) : V z pc lv (.int n :: .int dp :: .ref b :: .int sp :: .ref a :: st) M nc ns := by
  intro H locs ls hw hl
  obtain ⟨w1, w2, w3, w4⟩ := hv
  obtain ⟨o1, o2, o3, o4, o5⟩ := cpok_of hok
  have hea := wl_get (cy := z.cy) (ad := z.ad) ha
  have heb := wl_get (cy := z.cy) (ad := z.ad) hb
  rw [ent_longs hka] at hea
  rw [ent_longs hkb] at heb
  refine va_copyl hz.exec hz.code (hz.nl.trans (hl.1.trans hll).symm) hz.hown (hz.ts _ w1) (hz.ts _ w2) (hz.ts _ w3) (hz.ts _ w4) hz.K hw.1 (hz.D M) hw.2.1 a b 2 2 hea heb rfl rfl rfl o1 o2 o3 o4 o5 (fun _ _ => rfl) (by rw [hz.room]; exact Nat.le_add_left _ _) (cp_room hroom hz) hd (fun H1 locs1 hP hD hS => ?_)
  rw [w_arr (M := M) (M' := cpL M a b sp.toNatClampNeg dp.toNatClampNeg n.toNatClampNeg) rfl (fun _ => rfl) (fun _ => rfl) (fun _ _ _ => rfl) (fun _ _ _ => rfl) (fun q hq j => if_neg (fun h => hq h.1)) (by
    rw [ent_longs (M := cpL M a b sp.toNatClampNeg dp.toNatClampNeg n.toNatClampNeg) hkb]
    have : mL (cpL M a b sp.toNatClampNeg dp.toNatClampNeg n.toNatClampNeg) b = va_cpy (mL M a) (mL M b) sp.toNatClampNeg dp.toNatClampNeg n.toNatClampNeg := by
      funext j
      simp [mL_cpL, va_cpy]
    rw [this]
    rfl)] at hP
  exact kk H1 locs1 ls ⟨hP, hS, fun hal => by rw [hz.eal] at hal; cases hal⟩ hl
end MORE
