section MORE
variable {z : Zx} {fx : Fx} {al : Bool} {own nm : String} {cc : ByteArray} {rt : Option FieldType} {nL r mc ms : Nat} {rv : Option Value} {N : Mem} {pc : Nat} {lv : List (Option Value)} {st : List Value} {M : Mem} {nc ns : Nat}
theorem v_callSU (hz : Zok z fx al own nm cc rt nL (r + 1) mc ms rv N) {idx ci n maxL b mc1 ms1 : Nat} {C : String} {T0 : u_T} {k : Nat} {x y : MethodName} {c1 : ByteArray} {rt1 : Option FieldType} {As : List Value} {rv1 : Option Value} {M1 : Mem} {st0 : List Value}
    (hv : UPL own idx x y c1 maxL rt1 n) (hM : Ct fx y c1 maxL rt1 r mc1 ms1 al (.ref b :: As) M rv1 M1) (hci : vwCl[ci]? = some (C, T0, k)) (hci13 : ci < 13) (hb : b < mN M) (hkb : mK M b = ci) (hn : As.length = n) (hll : lv.length = nL) (hst0 : st0 = As.reverse ++ .ref b :: st) (hroom : (st.map fun v => v.category).sum ≤ 8) (hc : nc + mc1 ≤ mc ∧ ns + ms1 ≤ ms) (hd : decode cc pc = .ok (.invokespecial idx, 3))
    (kk : V z (pc + 3) lv (rv1.toList ++ st) M1 (nc + mc1) (ns + ms1)) : V z pc lv st0 M nc ns := by
  obtain ⟨w1, w2, w3, w4, w5, w6, w7, hyx, hno, hdn, hml⟩ := hv
  refine v_run (ar := (Value.ref (z.ad b) :: As.map (tv z.ad z.ex)).toArray) (fun H locs ls hw hl => ?_) kk
  have he := wl_get (cy := z.cy) (ad := z.ad) hb
  rw [ent_obj hkb hci13] at he
  rw [← hz.efx, ← hz.eal] at hM
  have hM' := hM z.ad hz.inj
  rw [← hz.el] at hM'
  have hg : ∀ w ∈ Cond.code y c1 maxL rt1 :: BIG, w ∈ BIG := fun w h => (List.mem_cons.mp h).elim (fun e => e ▸ w7) id
  have hrk := hz.rk (mc1 := mc1) (ms1 := ms1) hml
  have hini := hz.ts _ w6
  have hK : Back z.l z.R z.p z.e z.b z.s z.a y 3 8 (PreOf z.R mc1 ms1 (va_Pc ((Value.ref b :: As).map (tv z.ad z.ex)) (Px z.fx z.ad z.al M))) (PostOf (Qx z.fx z.ad z.al rv1 M1) mc1 ms1 (Ad z.ad)) := back_of (bytes := c1) (maxL := maxL) (ret := rt1) hM' Px_blind rfl rfl hrk.1 hrk.2 (pay_in hz.ts (big_ws hg)) List.mem_cons_self (fun a' U hW => word_at hW (Or.inl (by first | rfl | simp [Cond.onTables, Cond.keeps, Cond.steady])) hini)
  obtain ⟨cellB, hcB, hoB, hclB⟩ := va_recv hz.K hw.1 (ci := ci) (q0 := b) hci he
  obtain ⟨-, hfc, kB, hkB, -⟩ := hz.K.1 ci _ hci
  have hcl2 : z.D.1 ci = cellB.cls := Option.some.inj (hfc.symm.trans hclB)
  rw [hcl2] at hkB
  obtain ⟨mk, methM, hnamed, hmethM, hstM, habM⟩ := Cond.instanceMethod_spec (hz.ts _ w5)
  obtain ⟨methM', cM, hmethM', -, -, -, -, -, -, hsigM⟩ := Cond.code_spec hnamed (hz.ts _ w7)
  cases hmethM.symm.trans hmethM'
  obtain ⟨ps, dk, kp, hps, hdk, hkp, hsuper, -, -, hnid⟩ := Cond.superclass_spec hz.hown (hz.ts _ w3)
  have hn2 : z.s.methodNamed? ⟨y.cls, x.name, x.desc⟩ = some mk := by rw [← hyx]; exact hnamed
  have hfy := findClass_of_methodNamed hnamed
  have hsub : z.s.vm.isSubclass ps mk.cls = true := by
    rcases w4 with e | w4
    · rw [e] at hps
      have hpm : ps = mk.cls := Option.some.inj (hps.symm.trans hfy)
      rw [hpm]
      simp [Vm.isSubclass, Vm.isSubclassAux]
    · obtain ⟨ps2, dk2, kp2, hps2, hdk2, hkp2, hsuper2, -⟩ := Cond.superclass_spec hps (hz.ts _ w4)
      have hpm : ps2 = mk.cls := Option.some.inj (hps2.symm.trans hfy)
      subst hpm
      have hsz : 0 < z.s.vm.classes.size := Nat.lt_of_le_of_lt (Nat.zero_le _) (Array.getElem?_eq_some_iff.mp hdk2).1
      obtain ⟨q, hq⟩ : ∃ q, z.s.vm.classes.size = q + 1 := ⟨z.s.vm.classes.size - 1, by omega⟩
      simp [Vm.isSubclass, Vm.isSubclassAux, hq, hdk2, hsuper2]
  intro T hT X
  have hsz0 : (F0 z.m pc ls (st0.map (tv z.ad z.ex))).locals.size = z.c.maxLocals := (hl.1.trans hll).trans hz.nl.symm
  obtain ⟨vm₁, X₁, hstep₁⟩ := X.invokespecialUp hz.exec hz.hown (hz.ts _ w1) (hz.ts _ w2) hn2 hmethM hstM habM hno hdk hnid hps hsuper hsub (a := z.ad b) (cell := cellB) (by rw [hT]; exact hcB)
    (fun z h => by rw [h] at hoB; cases hoB) hkB (g := F0 z.m pc ls (st0.map (tv z.ad z.ex))) rfl (argsL := As.map (tv z.ad z.ex)) (rest := st.map (tv z.ad z.ex)) (by rw [List.length_map, hn]; have h2 := hdn; rw [hsigM] at h2; exact (Option.some.inj h2).symm) (by rw [hst0]; simp [tv]) (by rw [hz.code]; exact hd)
  obtain ⟨v, ⟨U', l2, c2, s2⟩, X', ⟨g', mk', t, L, e1, e2, hq, h1, hL, h2, h3⟩, hsteps⟩ := hK z.m z.mt z.c ⟨T.setVm vm₁, locs, nc, ns⟩ { F0 z.m pc ls (st0.map (tv z.ad z.ex)) with stack := st.map (tv z.ad z.ex) } (.invokespecial idx) mk (Value.ref (z.ad b) :: As.map (tv z.ad z.ex)).toArray X₁ rfl hsz0 (by rw [hz.code]; exact hd) (lv_room (by simpa [Function.comp_def, tv_cat] using hroom)) (X₁.named hnamed)
    ⟨Nat.le_trans hc.1 hz.rc, Nat.le_trans hc.2 hz.rs, by rw [List.map_cons]; rfl, Px_at hz hw hT X₁.warmed⟩
  dsimp only [Pt.U, Pt.locs, Pt.cells, Pt.slots] at X' e1 e2 h1 h2 h3 hsteps
  subst h1; subst h2; subst h3
  exact ⟨v, (T.setVm vm₁).calling g' mk' (Value.ref (z.ad b) :: As.map (tv z.ad z.ex)).toArray, t, U', L, hT, X', hL, e1, e2, hq, fun target h => hstep₁ _ (by rw [doInvoke_state]; exact hsteps.trans h)⟩
theorem v_objInit (hz : Zok z fx al own nm cc rt nL (r + 1) mc ms rv N) {idx a : Nat} (w1 : Cond.methodLink own idx objectInit ∈ BIG) (w2 : Cond.instanceMethod objectInit ∈ BIG) (w3 : Cond.code objectInit ⟨#[0xb1]⟩ 1 none ∈ BIG) (hll : lv.length = nL) (hst : st = []) (hd : decode cc pc = .ok (.invokespecial idx, 3)) (kk : V z (pc + 3) lv st M nc ns) : V z pc lv (.ref a :: st) M nc ns := by
  intro H locs ls hw hl
  subst hst
  exact W.objInit hz.exec hz.code hz.hown (hz.ts _ w1) (hz.ts _ w2) (hz.ts _ w3) rfl ((hl.1.trans hll).trans hz.nl.symm) rfl hd (Nat.le_trans (Nat.le_add_left 1 _) hz.rf) (by have h9 := hz.rl; simp [JFrame.monitorRoom]; omega) (kk H locs ls hw hl)
def ML (own : String) (idx : Nat) (y : MethodName) (c : ByteArray) : Prop := Cond.methodLink own idx y ∈ BIG ∧ Cond.static y ∈ BIG ∧ Cond.initialized "java/lang/Math" ∈ BIG ∧ Cond.code y c 2 (some .int) ∈ BIG
theorem v_mmax (hz : Zok z fx al own nm cc rt nL (r + 1) mc ms rv N) {idx : Nat} {x y : Int32} (hv : ML own idx Lib.Math.max.name Lib.Math.max.code) (hll : lv.length = nL) (hroom : (st.map fun v => v.category).sum ≤ 8) (hnc : nc ≤ mc) (hns : ns ≤ ms) (hd : decode cc pc = .ok (.invokestatic idx, 3)) (kk : V z (pc + 3) lv (.int (if x < y then y else x) :: st) M nc ns) : V z pc lv (.int y :: .int x :: st) M nc ns := by
  intro H locs ls hw hl
  obtain ⟨w1, w2, w3, w4⟩ := hv
  exact va_mmax hz.exec hz.code (hz.nl.trans (hl.1.trans hll).symm) hz.hown (hz.ts _ w1) (hz.ts _ w2) (hz.ts _ w3) (hz.ts _ w4) (Nat.le_trans (Nat.le_add_left 1 _) hz.rf) (by have h : ((st.map (tv z.ad z.ex)).map fun v => v.category).sum ≤ 8 := (by simpa [Function.comp_def, tv_cat] using hroom); have h9 := hz.rl; omega) (Nat.le_trans hnc hz.rc) (Nat.le_trans hns hz.rs) hd (kk H locs ls hw hl)
theorem v_mmin (hz : Zok z fx al own nm cc rt nL (r + 1) mc ms rv N) {idx : Nat} {x y : Int32} (hv : ML own idx Lib.Math.min.name Lib.Math.min.code) (hll : lv.length = nL) (hroom : (st.map fun v => v.category).sum ≤ 8) (hnc : nc ≤ mc) (hns : ns ≤ ms) (hd : decode cc pc = .ok (.invokestatic idx, 3)) (kk : V z (pc + 3) lv (.int (if y < x then y else x) :: st) M nc ns) : V z pc lv (.int y :: .int x :: st) M nc ns := by
  intro H locs ls hw hl
  obtain ⟨w1, w2, w3, w4⟩ := hv
  exact va_mmin hz.exec hz.code (hz.nl.trans (hl.1.trans hll).symm) hz.hown (hz.ts _ w1) (hz.ts _ w2) (hz.ts _ w3) (hz.ts _ w4) (Nat.le_trans (Nat.le_add_left 1 _) hz.rf) (by have h : ((st.map (tv z.ad z.ex)).map fun v => v.category).sum ≤ 8 := (by simpa [Function.comp_def, tv_cat] using hroom); have h9 := hz.rl; omega) (Nat.le_trans hnc hz.rc) (Nat.le_trans hns hz.rs) hd (kk H locs ls hw hl)
/-- a stretch of a row copied -/
def CL (own : String) (idx : Nat) : Prop := Cond.methodLink own idx arraycopyName ∈ BIG ∧ Cond.native arraycopyName ∈ BIG ∧ Cond.static arraycopyName ∈ BIG ∧ Cond.initialized "java/lang/System" ∈ BIG
def cpok (sp dp n : Int32) (n0 n1 : Nat) : Bool := !(decide (sp < 0)) && !(decide (dp < 0)) && !(decide (n < 0)) && decide (sp.toNatClampNeg + n.toNatClampNeg ≤ n0) && decide (dp.toNatClampNeg + n.toNatClampNeg ≤ n1)
theorem cpok_of {sp dp n : Int32} {n0 n1 : Nat} (h : cpok sp dp n n0 n1 = true) : ¬ sp < 0 ∧ ¬ dp < 0 ∧ ¬ n < 0 ∧ sp.toNatClampNeg + n.toNatClampNeg ≤ n0 ∧ dp.toNatClampNeg + n.toNatClampNeg ≤ n1 := by
  simpa [cpok, and_assoc] using h
theorem cp_room (h : (st.map fun v => v.category).sum ≤ 8) (hz : Zok z fx al own nm cc rt nL (r + 1) mc ms rv N) : ((st.map (tv z.ad z.ex)).map fun v => v.category).sum + (nativeFrameWords "java/lang/System" "arraycopy" 5 + 11) ≤ z.R.locals := by
  have h' : ((st.map (tv z.ad z.ex)).map fun v => v.category).sum ≤ 8 := by simpa [Function.comp_def, tv_cat] using h
  have h2 : nativeFrameWords "java/lang/System" "arraycopy" 5 + 11 ≤ 32 := by decide +kernel
  have h9 := hz.rl
  omega
theorem i32_nn {x : Int32} (h : ¬ x < 0) : x.toInt = (x.toNatClampNeg : Int) := by
  have h0 : (0 : Int) ≤ x.toInt := by simpa using Int32.le_iff_toInt_le.mp (Int32.not_lt.mp h)
  show x.toInt = ((x.toInt.toNat : Nat) : Int)
  omega
/-- a stretch copied from one row to another (or the same): the heap is as large as before -/
theorem w_copy (hz : Zok z fx al own nm cc rt nL (r + 1) mc ms rv N) {α : Type} (mk : α → Value) {idx a b t0 : Nat} {sp dp n : Int32} {c0 : ClassId} {n0 n1 : Nat} {f g : Nat → α} {ty : FieldType} {H : Heap} {locs : List Loc} {ls : Array Slot} (hv : CL own idx) (hll : ls.size = nL) (hw : Wd z M H locs) (ha : H[z.ad a]? = some (arrV c0 n0 (fun j => mk (f j)))) (hb : H[z.ad b]? = some (arrV c0 n1 (fun j => mk (g j)))) (ht : (tysF z.cy)[t0]? = some (c0, ty)) (hprim : refKind ty = false) (htk : ∀ (U : State) (c : ClassId) (x : α), U.takes c (mk x)) (hok : cpok sp dp n n0 n1 = true) (hfit : ∀ i, i < n.toNatClampNeg → fits ty (mk (f (sp.toNatClampNeg + i))) = true) (hroom : (st.map fun v => v.category).sum ≤ 8) (hd : decode cc pc = .ok (.invokestatic idx, 3))
    (kk : ∀ (H1 : Heap) (L : List Loc), H1[z.ad b]? = some (arrV c0 n1 (fun j => mk (va_cpy f g sp.toNatClampNeg dp.toNatClampNeg n.toNatClampNeg j))) → H1.size = H.size → (∀ q, q ≠ z.ad b → H1[q]? = H[q]?) → (∀ l ∈ L, l.base = z.ad b) → W z.p z.l z.e z.R z.s z.m z.a z.b z.mt z.c H1 (locs ++ L) nc ns z.Q (F0 z.m (pc + 3) ls (st.map (tv z.ad z.ex)))) :
    W z.p z.l z.e z.R z.s z.m z.a z.b z.mt z.c H locs nc ns z.Q (F0 z.m pc ls ((.int n :: .int dp :: .ref b :: .int sp :: .ref a :: st).map (tv z.ad z.ex))) := by
  obtain ⟨w1, w2, w3, w4⟩ := hv
  obtain ⟨o1, o2, o3, o4, o5⟩ := cpok_of hok
  intro T hT X
  obtain ⟨-, k0, hk0, cm0, hkk0⟩ := (hz.K.2 t0 _ ht).1 n0 (fun j => mk (f j))
  obtain ⟨-, k1, hk1, cm1, hkk1⟩ := (hz.K.2 t0 _ ht).1 n1 (fun j => mk (g j))
  obtain ⟨vm', X', go⟩ := X.arraycopy hz.exec hz.hown (hz.ts _ w1) (hz.ts _ w2) (hz.ts _ w3) (hz.ts _ w4) (src := z.ad a) (dst := z.ad b) (cs := arrV c0 n0 (fun j => mk (f j))) (cd := arrV c0 n1 (fun j => mk (g j))) (srcPos := sp) (destPos := dp) (n := n) (by rw [hT]; exact ha) (by rw [hT]; exact hb)
    (fun _ h => by cases h) (fun _ h => by cases h) (fun h => by cases h) (fun h => by cases h) hk0 hk1 hkk0 hkk1 (by simp [hprim]) o1 o2 o3
    (by rw [i32_nn o1, i32_nn o3, arrV_size]; omega) (by rw [i32_nn o2, i32_nn o3, arrV_size]; omega)
    (fun vm₁ _ i hi => by
      have e : (arrV c0 n0 (fun j => mk (f j))).slots.getD (sp.toNatClampNeg + i) .null = mk (f (sp.toNatClampNeg + i)) := by
        rw [Array.getD_eq_getD_getElem?, arrV_read _ _ (by omega)]
        rfl
      rw [e]
      exact ⟨hfit i hi, htk _ _ _⟩)
    (g := F0 z.m pc ls ((.int n :: .int dp :: .ref b :: .int sp :: .ref a :: st).map (tv z.ad z.ex))) rfl (hll.trans hz.nl.symm) (rest := st.map (tv z.ad z.ex)) rfl (by rw [hz.code]; exact hd) (Nat.le_trans (Nat.le_add_left 1 _) hz.rf) (by have h8 := cp_room hroom hz; show 2 * 0 + _ + _ ≤ _; omega)
  rw [show copied (arrV c0 n0 (fun j => mk (f j))) (arrV c0 n1 (fun j => mk (g j))) sp dp n = arrV c0 n1 (fun j => mk (va_cpy f g sp.toNatClampNeg dp.toNatClampNeg n.toNatClampNeg j)) from va_copied mk c0 c0 f g o4] at X' go
  have hl : z.ad b < H.size := (Array.getElem?_eq_some_iff.mp hb).1
  obtain ⟨t, a1, b1⟩ := kk (H.setIfInBounds (z.ad b) (arrV c0 n1 (fun j => mk (va_cpy f g sp.toNatClampNeg dp.toNatClampNeg n.toNatClampNeg j)))) _ (by simp [Array.getElem?_setIfInBounds, hl]) (by simp) (fun q hq => by simp [Array.getElem?_setIfInBounds, Ne.symm hq]) (fun l h => by
    obtain ⟨q, -, hq⟩ := List.mem_map.mp h
    rw [← hq]) _ (by rw [← hT]; rfl) X'
  exact ⟨t, go t a1, b1⟩
theorem w_copyS {b : Nat} {H H1 : Heap} {locs L : List Loc} (hw : Wd z M H locs) (e1 : H1.size = H.size) (oq : ∀ q, q ≠ z.ad b → H1[q]? = H[q]?) (hL : ∀ l ∈ L, l.base = z.ad b) : va_S (Ad z.ad) z.s.heap H1 (locs ++ L) := by
  have hS := hw.2.1
  refine ⟨by rw [e1]; exact hS.1, fun q h1 h2 => ?_, fun l hl => ?_⟩
  · rw [oq q (fun e => h2 ⟨b, e⟩)]
    exact hS.2.1 q h1 h2
  · rcases List.mem_append.mp hl with h | h
    · exact hS.2.2 l h
    · rw [hL l h]
      exact ⟨b, rfl⟩
theorem v_copyI (hz : Zok z fx al own nm cc rt nL (r + 1) mc ms rv N) {idx a b c : Nat} {sp dp n : Int32} (hv : CL own idx) (hc : c = 14 ∨ (c = 16 ∧ ∀ i, i < n.toNatClampNeg → (mI M a (sp.toNatClampNeg + i) = 0 ∨ mI M a (sp.toNatClampNeg + i) = 1))) (hll : lv.length = nL) (ha : a < mN M) (hka : mK M a = c) (hb : b < mN M) (hkb : mK M b = c) (hok : cpok sp dp n (mG M a) (mG M b) = true) (hroom : (st.map fun v => v.category).sum ≤ 8) (hd : decode cc pc = .ok (.invokestatic idx, 3))
    (kk : V z (pc + 3) lv st (cpI M a b sp.toNatClampNeg dp.toNatClampNeg n.toNatClampNeg) nc ns) : V z pc lv (.int n :: .int dp :: .ref b :: .int sp :: .ref a :: st) M nc ns := by
  intro H locs ls hw hl
  have hc3 : c = 13 ∨ c = 14 ∨ c = 16 := hc.elim (fun h => Or.inr (Or.inl h)) (fun h => Or.inr (Or.inr h.1))
  have hea := wl_get (cy := z.cy) (ad := z.ad) ha
  have heb := wl_get (cy := z.cy) (ad := z.ad) hb
  rw [ent_ints hka hc3] at hea
  rw [ent_ints hkb hc3] at heb
  have hD := hz.D M
  obtain ⟨t0, ty, ht, hprim, hfit⟩ : ∃ (t0 : Nat) (ty : FieldType), (tysF z.cy)[t0]? = some (z.cy c, ty) ∧ refKind ty = false ∧ ∀ i, i < n.toNatClampNeg → fits ty (.int (mI M a (sp.toNatClampNeg + i))) = true := by
    rcases hc with rfl | ⟨rfl, h⟩
    · exact ⟨1, .int, rfl, rfl, fun _ _ => rfl⟩
    · exact ⟨3, .boolean, rfl, rfl, fun i hi => by rcases h i hi with e | e <;> simp [fits, e]⟩
  refine w_copy hz (fun x => .int x) hv (hl.1.trans hll) hw (hw.1 a _ hea) (hw.1 b _ heb) ht hprim (fun _ _ _ => trivial) hok hfit hroom hd fun H1 L e1 e2 oq hL => ?_
  have hat : va_at z.D vwCl (z.ad b, .inl (z.cy c, (mG M b, .inl (va_cpy (mI M a) (mI M b) sp.toNatClampNeg dp.toNatClampNeg n.toNatClampNeg)))) H1 := e1
  have hP := hw.1.set hD heb hat oq
  rw [w_arr (M := M) (M' := cpI M a b sp.toNatClampNeg dp.toNatClampNeg n.toNatClampNeg) rfl (fun _ => rfl) (fun _ => rfl) (fun _ _ _ => rfl) (fun q hq j => if_neg (fun h => hq h.1)) (fun _ _ _ => rfl) (by
    rw [ent_ints (M := cpI M a b sp.toNatClampNeg dp.toNatClampNeg n.toNatClampNeg) hkb hc3]
    have : mI (cpI M a b sp.toNatClampNeg dp.toNatClampNeg n.toNatClampNeg) b = va_cpy (mI M a) (mI M b) sp.toNatClampNeg dp.toNatClampNeg n.toNatClampNeg := by
      funext j
      simp [mI_cpI, va_cpy]
    rw [this]
    rfl)] at hP
  exact kk H1 _ ls ⟨hP, w_copyS hw e2 oq hL, fun hal j => by rw [mN_cpI, e2]; exact hw.2.2 hal j⟩ hl
theorem v_copyL (hz : Zok z fx al own nm cc rt nL (r + 1) mc ms rv N) {idx a b : Nat} {sp dp n : Int32} (hv : CL own idx) (hll : lv.length = nL) (ha : a < mN M) (hka : mK M a = 15) (hb : b < mN M) (hkb : mK M b = 15) (hok : cpok sp dp n (mG M a) (mG M b) = true) (hroom : (st.map fun v => v.category).sum ≤ 8) (hd : decode cc pc = .ok (.invokestatic idx, 3))
    (kk : V z (pc + 3) lv st (cpL M a b sp.toNatClampNeg dp.toNatClampNeg n.toNatClampNeg) nc ns) : V z pc lv (.int n :: .int dp :: .ref b :: .int sp :: .ref a :: st) M nc ns := by
  intro H locs ls hw hl
  have hea := wl_get (cy := z.cy) (ad := z.ad) ha
  have heb := wl_get (cy := z.cy) (ad := z.ad) hb
  rw [ent_longs hka] at hea
  rw [ent_longs hkb] at heb
  have hD := hz.D M
  refine w_copy hz (fun x => .long x) (t0 := 2) (ty := .long) hv (hl.1.trans hll) hw (hw.1 a _ hea) (hw.1 b _ heb) rfl rfl (fun _ _ _ => trivial) hok (fun _ _ => rfl) hroom hd fun H1 L e1 e2 oq hL => ?_
  have hat : va_at z.D vwCl (z.ad b, .inl (z.cy 15, (mG M b, .inr (.inl (va_cpy (mL M a) (mL M b) sp.toNatClampNeg dp.toNatClampNeg n.toNatClampNeg))))) H1 := e1
  have hP := hw.1.set hD heb hat oq
  rw [w_arr (M := M) (M' := cpL M a b sp.toNatClampNeg dp.toNatClampNeg n.toNatClampNeg) rfl (fun _ => rfl) (fun _ => rfl) (fun _ _ _ => rfl) (fun _ _ _ => rfl) (fun q hq j => if_neg (fun h => hq h.1)) (by
    rw [ent_longs (M := cpL M a b sp.toNatClampNeg dp.toNatClampNeg n.toNatClampNeg) hkb]
    have : mL (cpL M a b sp.toNatClampNeg dp.toNatClampNeg n.toNatClampNeg) b = va_cpy (mL M a) (mL M b) sp.toNatClampNeg dp.toNatClampNeg n.toNatClampNeg := by
      funext j
      simp [mL_cpL, va_cpy]
    rw [this]
    rfl)] at hP
  exact kk H1 _ ls ⟨hP, w_copyS hw e2 oq hL, fun hal j => by rw [mN_cpL, e2]; exact hw.2.2 hal j⟩ hl
end MORE
