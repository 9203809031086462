/-! ===== further calls ===== -/
section CALLS2
variable {z : Zx} {fx : Fx} {al : Bool} {own nm : String} {cc : ByteArray} {rt : Option FieldType} {nL r mc ms : Nat} {rv : Option Value} {N : Mem} {pc : Nat} {lv : List (Option Value)} {st : List Value} {M : Mem} {nc ns : Nat}
theorem rk_le {r maxL mc1 ms1 : Nat} (h : maxL ≤ 21) : (rk r mc1 ms1).frames + 1 ≤ (rk (r + 1) mc ms).frames ∧ 8 + (maxL + 11) + (rk r mc1 ms1).locals ≤ (rk (r + 1) mc ms).locals := ⟨Nat.le_refl _, by show 8 + (maxL + 11) + 40 * r ≤ 40 * (r + 1); omega⟩
/-- a static method of the class itself -/
def SL (own : String) (idx : Nat) (y : MethodName) (cc : ByteArray) (maxL : Nat) (rt : Option FieldType) (n : Nat) : Prop :=
  Cond.methodLink own idx y ∈ BIG ∧ Cond.static y ∈ BIG ∧ Cond.initialized own ∈ BIG ∧ Cond.code y cc maxL rt ∈ BIG ∧ (y.cls = own ∧ y.cls ≠ "java/lang/invoke/MethodHandle" ∧ y.cls ≠ "java/lang/invoke/VarHandle" ∧ (parseMethodDescriptor y.desc).map (fun d => d.parameters.length) = some n) ∧ maxL ≤ 21
theorem v_callS (hz : Zok z fx al own nm cc rt nL (r + 1) mc ms rv N) {idx n maxL mc1 ms1 : Nat} {y : MethodName} {c1 : ByteArray} {rt1 : Option FieldType} {As : List Value} {rv1 : Option Value} {M1 : Mem} {st0 : List Value}
    (hv : SL own idx y c1 maxL rt1 n) (hM : Ct fx y c1 maxL rt1 r mc1 ms1 al As M rv1 M1) (hn : As.length = n) (hll : lv.length = nL) (hst0 : st0 = As.reverse ++ st) (hroom : (st.map fun v => v.category).sum ≤ 8) (hc : nc + mc1 ≤ mc ∧ ns + ms1 ≤ ms) (hd : decode cc pc = .ok (.invokestatic idx, 3))
    (kk : V z (pc + 3) lv (rv1.toList ++ st) M1 (nc + mc1) (ns + ms1)) : V z pc lv st0 M nc ns := by
  obtain ⟨w1, w2, w3, w5, hdn, hml⟩ := hv
  refine v_run (ar := (As.map (tv z.ad z.ex)).toArray) (fun H locs ls hw hl => ?_) kk
  rw [← hz.efx, ← hz.eal] at hM
  have hM' := hM z.ad hz.inj
  rw [← hz.el] at hM'
  refine va_runS (As := As.map (tv z.ad z.ex)) (Ts := BIG) (n := n) ⟨hz.exec, hz.code, hz.nl, hz.hown, hz.ts⟩ hM' (cwS n hz.ts (big_ws (ws := wsS own idx y (Cond.code y c1 maxL rt1 :: BIG)) ?_) rfl rfl rfl hdn (hz.rk hml)) ⟨Px_blind, fun U hU hW => ⟨rfl, Px_at hz hw hU hW⟩⟩ rfl (by rw [List.length_map]; exact hn) (hl.1.trans hll) (by rw [hst0]; simp) (lv_room (by simpa [Function.comp_def, tv_cat] using hroom)) hd ⟨Nat.le_trans hc.1 hz.rc, Nat.le_trans hc.2 hz.rs⟩
  intro w hw
  simp only [wsS, List.mem_append, List.mem_cons, List.not_mem_nil, or_false] at hw
  rcases hw with (rfl | rfl | rfl) | rfl | h
  · exact w1
  · exact w2
  · exact w3
  · exact w5
  · exact h
/-- a nest mate's private method, or constructor -/
def NL (own : String) (idx : Nat) (host : String) (w : Cond) (y : MethodName) (cc : ByteArray) (maxL : Nat) (rt : Option FieldType) (n : Nat) : Prop :=
  (own, idx, y, host) ∈ xNest ∧ w ∈ BIG ∧ Cond.initialized y.cls ∈ BIG ∧ Cond.code y cc maxL rt ∈ BIG ∧ (y.cls ≠ "java/lang/invoke/MethodHandle" ∧ y.cls ≠ "java/lang/invoke/VarHandle" ∧ (parseMethodDescriptor y.desc).map (fun d => d.parameters.length) = some n) ∧ maxL ≤ 21
theorem v_callSN (hz : Zok z fx al own nm cc rt nL (r + 1) mc ms rv N) {idx n maxL mc1 ms1 : Nat} {host : String} {y : MethodName} {c1 : ByteArray} {rt1 : Option FieldType} {As : List Value} {rv1 : Option Value} {M1 : Mem} {st0 : List Value}
    (hv : NL own idx host (.static y) y c1 maxL rt1 n) (hM : Ct fx y c1 maxL rt1 r mc1 ms1 al As M rv1 M1) (hn : As.length = n) (hll : lv.length = nL) (hst0 : st0 = As.reverse ++ st) (hroom : (st.map fun v => v.category).sum ≤ 8) (hc : nc + mc1 ≤ mc ∧ ns + ms1 ≤ ms) (hd : decode cc pc = .ok (.invokestatic idx, 3))
    (kk : V z (pc + 3) lv (rv1.toList ++ st) M1 (nc + mc1) (ns + ms1)) : V z pc lv st0 M nc ns := by
  obtain ⟨w1, w2, w3, w5, hdn, hml⟩ := hv
  refine v_run (ar := (As.map (tv z.ad z.ex)).toArray) (fun H locs ls hw hl => ?_) kk
  rw [← hz.efx, ← hz.eal] at hM
  have hM' := hM z.ad hz.inj
  rw [← hz.el] at hM'
  have hg : ∀ w ∈ Cond.code y c1 maxL rt1 :: BIG, w ∈ BIG := fun w h => (List.mem_cons.mp h).elim (fun e => e ▸ w5) id
  exact va_runSN (As := As.map (tv z.ad z.ex)) (Ts := BIG) (n := n) ⟨hz.exec, hz.code, hz.nl, hz.hown, hz.ts⟩ hM' ⟨va_cnB n hz.ts (big_ws hg) rfl rfl rfl (hz.ext.1 _ w1) (hz.ts _ w3) hdn (hz.rk hml), hz.ts _ w2, trivial⟩ ⟨Px_blind, fun U hU hW => ⟨rfl, Px_at hz hw hU hW⟩⟩ rfl (by rw [List.length_map]; exact hn) (hl.1.trans hll) (by rw [hst0]; simp) (lv_room (by simpa [Function.comp_def, tv_cat] using hroom)) hd ⟨Nat.le_trans hc.1 hz.rc, Nat.le_trans hc.2 hz.rs⟩
theorem v_callIN (hz : Zok z fx al own nm cc rt nL (r + 1) mc ms rv N) {idx n maxL mc1 ms1 b : Nat} {host : String} {y : MethodName} {c1 : ByteArray} {As : List Value} {M1 : Mem} {st0 : List Value}
    (hv : NL own idx host (.instanceMethod y) y c1 maxL none n) (hy : y.name = "<init>") (hM : Ct fx y c1 maxL none r mc1 ms1 al (.ref b :: As) M none M1) (hn : As.length = n) (hll : lv.length = nL) (hst0 : st0 = As.reverse ++ .ref b :: st) (hroom : (st.map fun v => v.category).sum ≤ 8) (hc : nc + mc1 ≤ mc ∧ ns + ms1 ≤ ms) (hd : decode cc pc = .ok (.invokespecial idx, 3))
    (kk : V z (pc + 3) lv st M1 (nc + mc1) (ns + ms1)) : V z pc lv st0 M nc ns := by
  obtain ⟨w1, w2, w3, w5, hdn, hml⟩ := hv
  refine v_run (rv1 := none) (ar := (Value.ref (z.ad b) :: As.map (tv z.ad z.ex)).toArray) (fun H locs ls hw hl => ?_) kk
  rw [← hz.efx, ← hz.eal] at hM
  have hM' := hM z.ad hz.inj
  rw [← hz.el] at hM'
  have hg : ∀ w ∈ Cond.code y c1 maxL none :: BIG, w ∈ BIG := fun w h => (List.mem_cons.mp h).elim (fun e => e ▸ w5) id
  exact va_runIN (As := As.map (tv z.ad z.ex)) (Ts := BIG) (n := n) ⟨hz.exec, hz.code, hz.nl, hz.hown, hz.ts⟩ hM' ⟨va_cnB n hz.ts (big_ws hg) rfl rfl rfl (hz.ext.1 _ w1) (hz.ts _ w3) hdn (hz.rk hml), hy, hz.ts _ w2⟩ ⟨Px_blind, fun U hU hW => ⟨rfl, Px_at hz hw hU hW⟩⟩ rfl (by rw [List.length_map]; exact hn) (hl.1.trans hll) (by rw [hst0]; simp [tv]) (lv_room (by simpa [Function.comp_def, tv_cat] using hroom)) hd ⟨Nat.le_trans hc.1 hz.rc, Nat.le_trans hc.2 hz.rs⟩
/-- a constructor that is no private one -/
def IL (own : String) (idx : Nat) (y : MethodName) (cc : ByteArray) (maxL n : Nat) : Prop :=
  Cond.methodLink own idx y ∈ BIG ∧ Cond.instanceMethod y ∈ BIG ∧ Cond.initialized y.cls ∈ BIG ∧ Cond.code y cc maxL none ∈ BIG ∧ y.name = "<init>" ∧ (y.cls ≠ "java/lang/invoke/MethodHandle" ∧ y.cls ≠ "java/lang/invoke/VarHandle" ∧ (parseMethodDescriptor y.desc).map (fun d => d.parameters.length) = some n) ∧ maxL ≤ 21
theorem v_callI (hz : Zok z fx al own nm cc rt nL (r + 1) mc ms rv N) {idx n maxL mc1 ms1 b : Nat} {y : MethodName} {c1 : ByteArray} {As : List Value} {M1 : Mem} {st0 : List Value}
    (hv : IL own idx y c1 maxL n) (hM : Ct fx y c1 maxL none r mc1 ms1 al (.ref b :: As) M none M1) (hn : As.length = n) (hll : lv.length = nL) (hst0 : st0 = As.reverse ++ .ref b :: st) (hroom : (st.map fun v => v.category).sum ≤ 8) (hc : nc + mc1 ≤ mc ∧ ns + ms1 ≤ ms) (hd : decode cc pc = .ok (.invokespecial idx, 3))
    (kk : V z (pc + 3) lv st M1 (nc + mc1) (ns + ms1)) : V z pc lv st0 M nc ns := by
  obtain ⟨w1, w2, w3, w5, hy, hdn, hml⟩ := hv
  refine v_run (rv1 := none) (ar := (Value.ref (z.ad b) :: As.map (tv z.ad z.ex)).toArray) (fun H locs ls hw hl => ?_) kk
  rw [← hz.efx, ← hz.eal] at hM
  have hM' := hM z.ad hz.inj
  rw [← hz.el] at hM'
  have hg : ∀ w ∈ Cond.code y c1 maxL none :: BIG, w ∈ BIG := fun w h => (List.mem_cons.mp h).elim (fun e => e ▸ w5) id
  exact va_runI (As := As.map (tv z.ad z.ex)) (Ts := BIG) (n := n) ⟨hz.exec, hz.code, hz.nl, hz.hown, hz.ts⟩ hM' (cwI n hz.ts (big_ws hg) rfl rfl rfl (hz.ts _ w3) (hz.ts _ w1) (hz.ts _ w2) hy hdn (hz.rk hml)) ⟨Px_blind, fun U hU hW => ⟨rfl, Px_at hz hw hU hW⟩⟩ rfl (by rw [List.length_map]; exact hn) (hl.1.trans hll) (by rw [hst0]; simp [tv]) (lv_room (by simpa [Function.comp_def, tv_cat] using hroom)) hd ⟨Nat.le_trans hc.1 hz.rc, Nat.le_trans hc.2 hz.rs⟩
/-- a virtual call: what the reference names is owner's, what runs is y -/
def UL (own : String) (idx : Nat) (C owner : String) (x y : MethodName) (cc : ByteArray) (maxL : Nat) (rt : Option FieldType) (n : Nat) : Prop :=
  Cond.methodLink own idx x ∈ BIG ∧ Cond.sameMethod x.cls owner x.name x.desc ∈ BIG ∧ Cond.instanceMethod ⟨owner, x.name, x.desc⟩ ∈ BIG ∧ Cond.selects C x y ∈ BIG ∧ Cond.instanceMethod y ∈ BIG ∧ Cond.initialized y.cls ∈ BIG ∧ Cond.code y cc maxL rt ∈ BIG ∧ (∃ b0 m0 r0, Cond.code ⟨owner, x.name, x.desc⟩ b0 m0 r0 ∈ BIG) ∧ (owner ≠ "java/lang/invoke/MethodHandle" ∧ owner ≠ "java/lang/invoke/VarHandle" ∧ (parseMethodDescriptor x.desc).map (fun d => d.parameters.length) = some n) ∧ maxL ≤ 21
theorem v_callU (hz : Zok z fx al own nm cc rt nL (r + 1) mc ms rv N) {idx ci n maxL b mc1 ms1 : Nat} {C owner : String} {T : u_T} {k : Nat} {x y : MethodName} {c1 : ByteArray} {rt1 : Option FieldType} {As : List Value} {rv1 : Option Value} {M1 : Mem} {st0 : List Value}
    (hv : UL own idx C owner x y c1 maxL rt1 n) (hM : Ct fx y c1 maxL rt1 r mc1 ms1 al (.ref b :: As) M rv1 M1) (hci : vwCl[ci]? = some (C, T, k)) (hci13 : ci < 13) (hb : b < mN M) (hkb : mK M b = ci) (hn : As.length = n) (hll : lv.length = nL) (hst0 : st0 = As.reverse ++ .ref b :: st) (hroom : (st.map fun v => v.category).sum ≤ 8) (hc : nc + mc1 ≤ mc ∧ ns + ms1 ≤ ms) (hd : decode cc pc = .ok (.invokevirtual idx, 3))
    (kk : V z (pc + 3) lv (rv1.toList ++ st) M1 (nc + mc1) (ns + ms1)) : V z pc lv st0 M nc ns := by
  obtain ⟨w1, w2, w3, w4, w5, w6, w7, ⟨b0, m0, r0, w8⟩, hdn, hml⟩ := hv
  refine v_run (ar := (Value.ref (z.ad b) :: As.map (tv z.ad z.ex)).toArray) (fun H locs ls hw hl => ?_) kk
  have he := wl_get (cy := z.cy) (ad := z.ad) hb
  rw [ent_obj hkb hci13] at he
  rw [← hz.efx, ← hz.eal] at hM
  have hM' := hM z.ad hz.inj
  rw [← hz.el] at hM'
  refine va_runU (As := As.map (tv z.ad z.ex)) (Ts := BIG) (n := n) ⟨hz.exec, hz.code, hz.nl, hz.hown, hz.ts⟩ hM' (va_cwO n hz.ts (big_ws (ws := va_wsO own idx C owner x y (Cond.code y c1 maxL rt1 :: BIG)) ?_) rfl rfl rfl w8 hdn (hz.rk hml)) ⟨Px_blind, va_recv hz.K hw.1 (ci := ci) (q0 := b) hci he, fun U hU hW => ⟨by rw [List.map_cons]; rfl, Px_at hz hw hU hW⟩⟩ rfl (by rw [List.length_map]; exact hn) (hl.1.trans hll) (by rw [hst0]; simp [tv]) (lv_room (by simpa [Function.comp_def, tv_cat] using hroom)) hd ⟨Nat.le_trans hc.1 hz.rc, Nat.le_trans hc.2 hz.rs⟩
  intro w hw
  simp only [va_wsO, List.mem_append, List.mem_cons, List.not_mem_nil, or_false] at hw
  rcases hw with (rfl | rfl | rfl | rfl | rfl | rfl) | rfl | h
  · exact w1
  · exact w2
  · exact w3
  · exact w4
  · exact w5
  · exact w6
  · exact w7
  · exact h
/-- a super's method: the reference names the class right above, the method is that one's or the one's above it -/
def UPL (own : String) (idx : Nat) (x y : MethodName) (cc : ByteArray) (maxL : Nat) (rt : Option FieldType) (n : Nat) : Prop :=
  Cond.methodLink own idx x ∈ BIG ∧ Cond.sameMethod x.cls y.cls x.name x.desc ∈ BIG ∧ Cond.superclass own x.cls ∈ BIG ∧ (x.cls = y.cls ∨ Cond.superclass x.cls y.cls ∈ BIG) ∧ Cond.instanceMethod y ∈ BIG ∧ Cond.initialized y.cls ∈ BIG ∧ Cond.code y cc maxL rt ∈ BIG ∧ y = ⟨y.cls, x.name, x.desc⟩ ∧ x.name ≠ "<init>" ∧ (parseMethodDescriptor y.desc).map (fun d => d.parameters.length) = some n ∧ maxL ≤ 21
end CALLS2
