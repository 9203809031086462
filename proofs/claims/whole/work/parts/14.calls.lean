/-! ===== ends, entries, calls ===== -/
section ENDS
variable {z : Zx} {fx : Fx} {al : Bool} {own nm : String} {cc : ByteArray} {rt : Option FieldType} {nL r mc ms : Nat} {rv : Option Value} {N : Mem} {pc : Nat} {lv : List (Option Value)} {st : List Value} {M : Mem} {nc ns : Nat}
theorem v_iret {x : Int32} (hz : Zok z fx al own nm cc (some .int) nL r mc ms (some (.int x)) M) (hd : decode cc pc = .ok (.ireturn, 1)) (h1 : nc ≤ mc) (h2 : ns ≤ ms) : V z pc lv [.int x] M nc ns := by
  intro H locs ls hw hl
  refine W.widen (k := mc) (n := ms) h1 h2 ?_
  rw [hz.eQ (by simp)]
  exact W.iret hz.exec hz.code hz.ret (fun t ht hW => ⟨⟨rfl, by rw [ht]; exact hw.1, fun hal j => by rw [ht]; exact hw.2.2 hal j⟩, hw.2.1.F ht⟩) hw.2.1.2.2 hd hz.locks
theorem v_zret {x : Int32} (hz : Zok z fx al own nm cc (some .boolean) nL r mc ms (some (.int x)) M) (hx : x = 0 ∨ x = 1) (hd : decode cc pc = .ok (.ireturn, 1)) (h1 : nc ≤ mc) (h2 : ns ≤ ms) : V z pc lv [.int x] M nc ns := by
  intro H locs ls hw hl
  refine W.widen (k := mc) (n := ms) h1 h2 ?_
  rw [hz.eQ (by simp)]
  exact W.zret hz.exec hz.code hz.ret (by rcases hx with rfl | rfl <;> rfl) (fun t ht hW => ⟨⟨rfl, by rw [ht]; exact hw.1, fun hal j => by rw [ht]; exact hw.2.2 hal j⟩, hw.2.1.F ht⟩) hw.2.1.2.2 hd hz.locks
theorem v_lret {x : Int64} (hz : Zok z fx al own nm cc (some .long) nL r mc ms (some (.long x)) M) (hd : decode cc pc = .ok (.lreturn, 1)) (h1 : nc ≤ mc) (h2 : ns ≤ ms) : V z pc lv [.long x] M nc ns := by
  intro H locs ls hw hl
  refine W.widen (k := mc) (n := ms) h1 h2 ?_
  rw [hz.eQ (by simp)]
  exact W.lret hz.exec hz.code hz.ret (fun t ht hW => ⟨⟨rfl, by rw [ht]; exact hw.1, fun hal j => by rw [ht]; exact hw.2.2 hal j⟩, hw.2.1.F ht⟩) hw.2.1.2.2 hd hz.locks
theorem v_vret (hz : Zok z fx al own nm cc none nL r mc ms none M) (hd : decode cc pc = .ok (.return_, 1)) (h1 : nc ≤ mc) (h2 : ns ≤ ms) : V z pc lv [] M nc ns := by
  intro H locs ls hw hl
  refine W.widen (k := mc) (n := ms) h1 h2 ?_
  rw [hz.eQ (by simp)]
  exact W.vret hz.exec hz.code hz.ret (fun t ht hW => ⟨⟨rfl, by rw [ht]; exact hw.1, fun hal j => by rw [ht]; exact hw.2.2 hal j⟩, hw.2.1.F ht⟩) hw.2.1.2.2 hd hz.locks
theorem v_aret {x : Nat} {C : String} (hz : Zok z fx al own nm cc (some (.object C)) nL r mc ms (some (.ref x)) M) (hd : decode cc pc = .ok (.areturn, 1)) (h1 : nc ≤ mc) (h2 : ns ≤ ms) : V z pc lv [.ref x] M nc ns := by
  intro H locs ls hw hl
  refine W.widen (k := mc) (n := ms) h1 h2 ?_
  rw [hz.eQ (by simp)]
  exact W.aret hz.exec hz.code hz.ret (Or.inl ⟨C, rfl⟩) (Or.inr ⟨_, rfl⟩) (fun t ht hW => ⟨⟨rfl, by rw [ht]; exact hw.1, fun hal j => by rw [ht]; exact hw.2.2 hal j⟩, hw.2.1.F ht⟩) hw.2.1.2.2 hd hz.locks
/-- a contract out of the walk of its body -/
theorem ct_of {y : MethodName} {av : List Value} (hy : plainName y.cls = true) (hlen : (lg_sl av).length ≤ nL) (hlay : lay av ++ List.replicate (nL - (lay av).length) none = lv) (hll : lv.length = nL)
    (body : ∀ z : Zx, Zok z fx al y.cls y.name cc rt nL r mc ms rv N → V z 0 lv [] M 0 0) : Ct fx y cc nL rt r mc ms al av M rv N := by
  intro ad hinj
  refine Met.ofW (cc := cc) (maxL := nL) (ret := rt) hy rfl ?_
  intro p e s m args below meth c s₁ B hml hv
  obtain ⟨rfl, hP, hK, hal, hE⟩ := hv
  have hts := atoms_spec (ws := Cond.code y cc nL rt :: BIG) B.pre
  have hcat : ∀ vs : List Value, (lg_sl (vs.map (tv ad fx.2.2.2))).length = (lg_sl vs).length := by
    intro vs
    induction vs with
    | nil => rfl
    | cons v vs ih =>
      simp only [lg_sl, List.map_cons, List.flatMap_cons, List.length_append, tv_cat] at ih ⊢
      rw [ih]
      split <;> rfl
  have hl := lv_entry (av.map (tv ad fx.2.2.2)) (n := nL) (by rw [hcat]; exact hlen)
  rw [lg_entry_eq]
  generalize (lg_sl (av.map (tv ad fx.2.2.2)) ++ List.replicate (nL - (lg_sl (av.map (tv ad fx.2.2.2))).length) Slot.unset).toArray = ls at hl ⊢
  refine body (p, fx.1, e, (headSpec (Cond.code y cc nL rt :: BIG) (rk r mc ms)).room, s, m, (av.map (tv ad fx.2.2.2)).toArray, below, meth, c, fx, ad, al, MQ below (Qx fx ad al rv N) (av.map (tv ad fx.2.2.2)).toArray s mc ms (Ad ad)) ⟨B.exec, B.bytes, hml, findClass_of_methodNamed B.named, fun w hw => hts w (List.mem_cons_of_mem _ hw), hK, hinj, B.notSynchronized, B.returns, ⟨Nat.le_refl _, Nat.le_refl _, Nat.le_refl _, Nat.le_refl _⟩, hE, rfl, Or.inr rfl, (name_of_methodNamed B.named B.method).1, rfl, rfl⟩ s.heap [] ls ⟨hP, va_S.rf, hal⟩ ⟨hl.1.trans hll.symm, hl.2.1, fun i v hi => ?_⟩
  have hi2 : (lay av)[i]? = some (some v) := by
    rw [← hlay] at hi
    by_cases h : i < (lay av).length
    · rwa [List.getElem?_append_left h] at hi
    · rw [List.getElem?_append_right (by omega)] at hi
      have := List.mem_of_getElem? hi
      simp at this
  have h3 := lay_mem (ad := ad) (ex := fx.2.2.2) av 0 i v hi2
  rw [Nat.zero_add] at h3
  exact hl.2.2 _ h3
theorem Px_calling {ad : Nat → Nat} {U : State} (h : Px fx ad al M U) (g : JFrame) (mk : MethodId) (a : Array Value) : Px fx ad al M (U.calling g mk a) :=
  ⟨h.1, va_K.moved (u := U) (U := U.calling g mk a) (Vm.Alike.refl U.vm) h.2.1, h.2.2.1, Ext.go (U := U.calling g mk a) h.2.2.2 (State.WarmedH.refl U) (fun _ _ _ => rfl)⟩
theorem Px_blind {ad : Nat → Nat} {av : List Value} : FrameBlind (va_Pc av (Px fx ad al M)) := fun a U g mk q => ⟨q.1, Px_calling q.2 g mk a⟩
theorem Px_at (hz : Zok z fx al own nm cc rt nL r mc ms rv N) {H : Heap} {locs : List Loc} (hw : Wd z M H locs) {U : State} (hU : U.heap = H) (hW : z.s.WarmedH U.vm) : Px z.fx z.ad z.al M U := by
  subst hU
  exact ⟨hw.1, va_K.moved hW.alike hz.K, hw.2.2, hz.ext.go hW hw.2.1.2.1⟩
theorem v_run {rv1 : Option Value} {M1 : Mem} {mc1 ms1 : Nat} {st0 : List Value} {ar : Array Value}
    (hr : ∀ (H : Heap) (locs : List Loc) (ls : Array Slot), Wd z M H locs → lvh z ls lv → va_Run z.p z.l z.e z.R z.s z.m z.a z.b z.mt z.c H locs nc ns mc1 ms1 (F0 z.m pc ls (st0.map (tv z.ad z.ex))) (st.map (tv z.ad z.ex)) (Qx z.fx z.ad z.al rv1 M1 ar) (Ad z.ad))
    (kk : V z (pc + 3) lv (rv1.toList ++ st) M1 (nc + mc1) (ns + ms1)) : V z pc lv st0 M nc ns := by
  intro H locs ls hw hl T hT X
  obtain ⟨v, st₀, t, T', L, h0, X', hL, e1, e2, ⟨⟨hv, hP, ha⟩, hsz, hk⟩, go⟩ := hr H locs ls hw hl T hT X
  cases hv
  rw [h0] at hsz hk
  have hS := hw.2.1
  obtain ⟨t2, a1, b1⟩ := kk T'.heap (locs ++ L) ls ⟨by rw [e1]; exact hP, ⟨Nat.le_trans hS.1 (by rw [e1]; exact hsz), fun q h1 h2 => by rw [e1, hk q (Nat.lt_of_lt_of_le h1 hS.1) h2]; exact hS.2.1 q h1 h2, fun q hq => by
      rcases List.mem_append.mp hq with h | h
      · exact hS.2.2 q h
      · exact hL q h⟩, by rw [e1]; exact ha⟩ hl T' rfl X'
  refine ⟨t2, go t2 ?_, b1⟩
  have : (rv1.toList ++ st).map (tv z.ad z.ex) = (rv1.map (tv z.ad z.ex)).toList ++ st.map (tv z.ad z.ex) := by cases rv1 <;> simp
  rw [this] at a1
  exact a1
/-- a call's words: an instance method of the class itself -/
def VL (own : String) (idx : Nat) (C : String) (y : MethodName) (cc : ByteArray) (maxL : Nat) (rt : Option FieldType) (n : Nat) : Prop :=
  Cond.methodLink own idx y ∈ BIG ∧ Cond.instanceMethod y ∈ BIG ∧ Cond.selects C y y ∈ BIG ∧ Cond.initialized C ∈ BIG ∧ Cond.code y cc maxL rt ∈ BIG ∧ (y.cls = C ∧ y.cls ≠ "java/lang/invoke/MethodHandle" ∧ y.cls ≠ "java/lang/invoke/VarHandle" ∧ (parseMethodDescriptor y.desc).map (fun d => d.parameters.length) = some n) ∧ maxL ≤ 21
theorem big_ws {ws : List Cond} (h : ∀ w ∈ ws, w ∈ BIG) : GoodIn BIG ws := fun w hw => BIG_good w (h w hw)
theorem v_callV (hz : Zok z fx al own nm cc rt nL (r + 1) mc ms rv N) {idx ci n maxL b mc1 ms1 : Nat} {C : String} {T : u_T} {k : Nat} {y : MethodName} {c1 : ByteArray} {rt1 : Option FieldType} {As : List Value} {rv1 : Option Value} {M1 : Mem} {st0 : List Value}
    (hv : VL own idx C y c1 maxL rt1 n) (hM : Ct fx y c1 maxL rt1 r mc1 ms1 al (.ref b :: As) M rv1 M1) (hci : vwCl[ci]? = some (C, T, k)) (hci13 : ci < 13) (hb : b < mN M) (hkb : mK M b = ci) (hn : As.length = n) (hll : lv.length = nL) (hst0 : st0 = As.reverse ++ .ref b :: st) (hroom : (st.map fun v => v.category).sum ≤ 8) (hc : nc + mc1 ≤ mc ∧ ns + ms1 ≤ ms) (hd : decode cc pc = .ok (.invokevirtual idx, 3))
    (kk : V z (pc + 3) lv (rv1.toList ++ st) M1 (nc + mc1) (ns + ms1)) : V z pc lv st0 M nc ns := by
  obtain ⟨w1, w2, w3, w4, w5, hdn, hml⟩ := hv
  refine v_run (ar := (Value.ref (z.ad b) :: As.map (tv z.ad z.ex)).toArray) (fun H locs ls hw hl => ?_) kk
  have he := wl_get (cy := z.cy) (ad := z.ad) hb
  rw [ent_obj hkb hci13] at he
  rw [← hz.efx, ← hz.eal] at hM
  have hM' := hM z.ad hz.inj
  rw [← hz.el] at hM'
  refine va_runV (As := As.map (tv z.ad z.ex)) (Ts := BIG) (n := n) ⟨hz.exec, hz.code, hz.nl, hz.hown, hz.ts⟩ hM' (cwV n hz.ts (big_ws (ws := wsV own idx C y (Cond.code y c1 maxL rt1 :: BIG)) ?_) rfl rfl rfl hdn (hz.rk hml)) ⟨Px_blind, va_recv hz.K hw.1 (ci := ci) (q0 := b) hci he, fun U hU hW => ⟨by rw [List.map_cons]; rfl, Px_at hz hw hU hW⟩⟩ rfl (by rw [List.length_map]; exact hn) (hl.1.trans hll) (by rw [hst0]; simp [tv]) (lv_room (by simpa [Function.comp_def, tv_cat] using hroom)) hd ⟨Nat.le_trans hc.1 hz.rc, Nat.le_trans hc.2 hz.rs⟩
  intro w hw
  simp only [wsV, List.mem_append, List.mem_cons, List.not_mem_nil, or_false] at hw
  rcases hw with (rfl | rfl | rfl | rfl) | rfl | h
  · exact w1
  · exact w2
  · exact w3
  · exact w4
  · exact w5
  · exact h
end ENDS
