section STRS
variable {z : Zx} {fx : Fx} {al : Bool} {own nm : String} {cc : ByteArray} {rt : Option FieldType} {nL r mc ms : Nat} {rv : Option Value} {N : Mem} {pc : Nat} {lv : List (Option Value)} {st : List Value} {M : Mem} {nc ns : Nat}
def isS (j : Nat) : Bool := decide (j < 10)
def isB (j : Nat) : Bool := decide (10 ≤ j ∧ j < 20)
theorem v_xval (hz : Zok z fx al own nm cc rt nL r mc ms rv N) {idx j : Nat} (hw0 : Cond.fieldLink own idx "java/lang/String" "value" "[B" ∈ BIG) (hd : decode cc pc = .ok (.getfield idx, 3)) (hj : isS j = true) (kk : V z (pc + 3) lv (.retAddr (10 + j) :: st) M nc ns) : V z pc lv (.retAddr j :: st) M nc ns := by
  intro H locs ls hw hl
  have hj' : j < 10 := of_decide_eq_true hj
  exact vk_getf hz.exec hz.code (hz.ext.2.2.2.2.1.1 j hj').2.2.1 hw.2.1 hz.hown (hz.ts _ hw0) (fun _ h => h) hd (kk H locs ls hw hl)
theorem v_xcod (hz : Zok z fx al own nm cc rt nL r mc ms rv N) {idx j : Nat} (hw0 : Cond.fieldLink own idx "java/lang/String" "coder" "B" ∈ BIG) (hd : decode cc pc = .ok (.getfield idx, 3)) (hj : isS j = true) (kk : V z (pc + 3) lv (.int 0 :: st) M nc ns) : V z pc lv (.retAddr j :: st) M nc ns := by
  intro H locs ls hw hl
  have hj' : j < 10 := of_decide_eq_true hj
  exact vk_getf hz.exec hz.code (hz.ext.2.2.2.2.1.1 j hj').2.1 hw.2.1 hz.hown (hz.ts _ hw0) (fun _ h => h) hd (kk H locs ls hw hl)
theorem v_getCS (hz : Zok z fx al own nm cc rt nL r mc ms rv N) {idx : Nat} (hw0 : Cond.fieldLink own idx "java/lang/String" "COMPACT_STRINGS" "Z" ∈ BIG) (hd : decode cc pc = .ok (.getstatic idx, 3)) (kk : V z (pc + 3) lv (.int 1 :: st) M nc ns) : V z pc lv st M nc ns := by
  intro H locs ls hw hl
  exact va_gets hz.exec hz.code hz.ext.2.2.2.2.2.2.1 hw.2.1 hz.hown (hz.ts _ hw0) (fun _ h => h) hd (kk H locs ls hw hl)
theorem v_getSF (hz : Zok z fx al own nm cc rt nL r mc ms rv N) {idx : Nat} (hw0 : Cond.fieldLink own idx "jdk/internal/util/Preconditions" "SIOOBE_FORMATTER" "Ljava/util/function/BiFunction;" ∈ BIG) (hd : decode cc pc = .ok (.getstatic idx, 3)) (kk : ∀ v : Value, (v = .null ∨ v = .retAddr 21) → V z (pc + 3) lv (v :: st) M nc ns) : V z pc lv st M nc ns := by
  intro H locs ls hw hl
  rcases hz.ext.2.2.2.2.2.2.2.2.2 with h | h
  · exact va_gets hz.exec hz.code h hw.2.1 hz.hown (hz.ts _ hw0) (fun _ h => h) hd (kk .null (Or.inl rfl) H locs ls hw hl)
  · exact va_gets hz.exec hz.code h hw.2.1 hz.hown (hz.ts _ hw0) (fun _ h => h) hd (kk (.retAddr 21) (Or.inr rfl) H locs ls hw hl)
theorem v_xlen (hz : Zok z fx al own nm cc rt nL r mc ms rv N) {j : Nat} (hd : decode cc pc = .ok (.arraylength, 1)) (hj : isB j = true) (kk : V z (pc + 1) lv (.int (Int32.ofNat (xLen.getD (j - 10) 0)) :: st) M nc ns) : V z pc lv (.retAddr j :: st) M nc ns := by
  intro H locs ls hw hl
  have hj' : 10 ≤ j ∧ j < 20 := of_decide_eq_true hj
  have hT := (hz.ext.2.2.2.2.1.1 (j - 10) (by omega)).2.2.2
  have e : 10 + (j - 10) = j := by omega
  simp only [e] at hT
  exact va_tlen hz.exec hz.code hT hw.2.1 rfl hd (kk H locs ls hw hl)
theorem v_xbaload (hz : Zok z fx al own nm cc rt nL r mc ms rv N) {j : Nat} {i : Int32} (hd : decode cc pc = .ok (.baload, 1)) (hj : isB j = true) (hin : inb i (xLen.getD (j - 10) 0) = true) (kk : V z (pc + 1) lv (.int ((xByt.getD (j - 10) []).getD i.toNatClampNeg 0) :: st) M nc ns) : V z pc lv (.int i :: .retAddr j :: st) M nc ns := by
  intro H locs ls hw hl
  have hj' : 10 ≤ j ∧ j < 20 := of_decide_eq_true hj
  have hT := (hz.ext.2.2.2.2.1.1 (j - 10) (by omega)).2.2.2
  have e : 10 + (j - 10) = j := by omega
  simp only [e] at hT
  exact va_tb hz.exec hz.code hT hw.2.1 (inb_in hin) rfl hd (kk H locs ls hw hl)
theorem v_callVX (hz : Zok z fx al own nm cc rt nL (r + 1) mc ms rv N) {idx n maxL b mc1 ms1 : Nat} {y : MethodName} {c1 : ByteArray} {rt1 : Option FieldType} {As : List Value} {rv1 : Option Value} {M1 : Mem} {st0 : List Value}
    (hv : VL own idx "java/lang/String" y c1 maxL rt1 n) (hM : Ct fx y c1 maxL rt1 r mc1 ms1 al (.retAddr b :: As) M rv1 M1) (hj : isS b = true) (hn : As.length = n) (hll : lv.length = nL) (hst0 : st0 = As.reverse ++ .retAddr b :: st) (hroom : (st.map fun v => v.category).sum ≤ 8) (hc : nc + mc1 ≤ mc ∧ ns + ms1 ≤ ms) (hd : decode cc pc = .ok (.invokevirtual idx, 3))
    (kk : V z (pc + 3) lv (rv1.toList ++ st) M1 (nc + mc1) (ns + ms1)) : V z pc lv st0 M nc ns := by
  obtain ⟨w1, w2, w3, w4, w5, hdn, hml⟩ := hv
  refine v_run (ar := (Value.ref (z.ex b) :: As.map (tv z.ad z.ex)).toArray) (fun H locs ls hw hl => ?_) kk
  have hj' : b < 10 := of_decide_eq_true hj
  rw [← hz.efx, ← hz.eal] at hM
  have hM' := hM z.ad hz.inj
  rw [← hz.el] at hM'
  refine va_runV (As := As.map (tv z.ad z.ex)) (Ts := BIG) (n := n) ⟨hz.exec, hz.code, hz.nl, hz.hown, hz.ts⟩ hM' (cwV n hz.ts (big_ws (ws := wsV own idx "java/lang/String" y (Cond.code y c1 maxL rt1 :: BIG)) ?_) rfl rfl rfl hdn (hz.rk hml)) ⟨Px_blind, vk_recv hz.ext.2.2.2.2.1 hj' hw.2.1, fun U hU hW => ⟨by rw [List.map_cons]; rfl, Px_at hz hw hU hW⟩⟩ rfl (by rw [List.length_map]; exact hn) (hl.1.trans hll) (by rw [hst0]; simp [tv]) (lv_room (by simpa [Function.comp_def, tv_cat] using hroom)) hd ⟨Nat.le_trans hc.1 hz.rc, Nat.le_trans hc.2 hz.rs⟩
  intro w hw
  simp only [wsV, List.mem_append, List.mem_cons, List.not_mem_nil, or_false] at hw
  rcases hw with (rfl | rfl | rfl | rfl) | rfl | h
  · exact w1
  · exact w2
  · exact w3
  · exact w4
  · exact w5
  · exact h
/-- a static method of any class -/
def SX (own : String) (idx : Nat) (y : MethodName) (cc : ByteArray) (maxL : Nat) (rt : Option FieldType) (n : Nat) : Prop :=
  Cond.methodLink own idx y ∈ BIG ∧ Cond.static y ∈ BIG ∧ Cond.initialized y.cls ∈ BIG ∧ Cond.code y cc maxL rt ∈ BIG ∧ (y.cls ≠ "java/lang/invoke/MethodHandle" ∧ y.cls ≠ "java/lang/invoke/VarHandle" ∧ (parseMethodDescriptor y.desc).map (fun d => d.parameters.length) = some n) ∧ maxL ≤ 21
theorem v_callSX (hz : Zok z fx al own nm cc rt nL (r + 1) mc ms rv N) {idx n maxL mc1 ms1 : Nat} {y : MethodName} {c1 : ByteArray} {rt1 : Option FieldType} {As : List Value} {rv1 : Option Value} {M1 : Mem} {st0 : List Value}
    (hv : SX own idx y c1 maxL rt1 n) (hM : Ct fx y c1 maxL rt1 r mc1 ms1 al As M rv1 M1) (hn : As.length = n) (hll : lv.length = nL) (hst0 : st0 = As.reverse ++ st) (hroom : (st.map fun v => v.category).sum ≤ 8) (hc : nc + mc1 ≤ mc ∧ ns + ms1 ≤ ms) (hd : decode cc pc = .ok (.invokestatic idx, 3))
    (kk : V z (pc + 3) lv (rv1.toList ++ st) M1 (nc + mc1) (ns + ms1)) : V z pc lv st0 M nc ns := by
  obtain ⟨w1, w2, w3, w5, hdn, hml⟩ := hv
  refine v_run (ar := (As.map (tv z.ad z.ex)).toArray) (fun H locs ls hw hl => ?_) kk
  rw [← hz.efx, ← hz.eal] at hM
  have hM' := hM z.ad hz.inj
  rw [← hz.el] at hM'
  refine va_runS (As := As.map (tv z.ad z.ex)) (Ts := BIG) (n := n) ⟨hz.exec, hz.code, hz.nl, hz.hown, hz.ts⟩ hM' (va_cwS n hz.ts (big_ws (ws := va_wsS own idx y (Cond.code y c1 maxL rt1 :: BIG)) ?_) rfl rfl rfl hdn (hz.rk hml)) ⟨Px_blind, fun U hU hW => ⟨rfl, Px_at hz hw hU hW⟩⟩ rfl (by rw [List.length_map]; exact hn) (hl.1.trans hll) (by rw [hst0]; simp) (lv_room (by simpa [Function.comp_def, tv_cat] using hroom)) hd ⟨Nat.le_trans hc.1 hz.rc, Nat.le_trans hc.2 hz.rs⟩
  intro w hw
  simp only [va_wsS, List.mem_append, List.mem_cons, List.not_mem_nil, or_false] at hw
  rcases hw with (rfl | rfl | rfl) | rfl | h
  · exact w1
  · exact w2
  · exact w3
  · exact w5
  · exact h
def okc (x : Int32) : Bool := decide (narrow .char (.int x) = .int x)
theorem v_cret {x : Int32} (hz : Zok z fx al own nm cc (some .char) nL r mc ms (some (.int x)) M) (hx : okc x = true) (hd : decode cc pc = .ok (.ireturn, 1)) (h1 : nc ≤ mc) (h2 : ns ≤ ms) : V z pc lv [.int x] M nc ns := by
  intro H locs ls hw hl
  refine W.widen (k := mc) (n := ms) h1 h2 ?_
  rw [hz.eQ (by simp)]
  exact W.zret hz.exec hz.code hz.ret (of_decide_eq_true hx) (fun t ht hW => ⟨⟨rfl, by rw [ht]; exact hw.1, fun hal j => by rw [ht]; exact hw.2.2 hal j⟩, hw.2.1.F ht⟩) hw.2.1.2.2 hd hz.locks
theorem v_bret0 (hz : Zok z fx al own nm cc (some .byte) nL r mc ms (some (.int 0)) M) (hd : decode cc pc = .ok (.ireturn, 1)) (h1 : nc ≤ mc) (h2 : ns ≤ ms) : V z pc lv [.int 0] M nc ns := by
  intro H locs ls hw hl
  refine W.widen (k := mc) (n := ms) h1 h2 ?_
  rw [hz.eQ (by simp)]
  exact W.zret hz.exec hz.code hz.ret rfl (fun t ht hW => ⟨⟨rfl, by rw [ht]; exact hw.1, fun hal j => by rw [ht]; exact hw.2.2 hal j⟩, hw.2.1.F ht⟩) hw.2.1.2.2 hd hz.locks
end STRS
/-! ===== the String methods that are reached, over the constants ===== -/
def fJ0_coder (M : Mem) (j : Nat) : Option (Int32 × Mem) := ck (isS j) <| some (0, M)
theorem tJ0_coder (r : Nat) {fx : Fx} {al : Bool} {M N : Mem} {a0 : Nat} {xr : Int32} (w1 : Cond.fieldLink "java/lang/String" 38 "java/lang/String" "COMPACT_STRINGS" "Z" ∈ BIG) (w2 : Cond.fieldLink "java/lang/String" 15 "java/lang/String" "coder" "B" ∈ BIG) (h : fJ0_coder M a0 = some (xr, N)) : Ct fx yJ0_coder_7d493 cJ0_coder_7d493 1 (some .byte) (r + 0) 0 0 al [.retAddr a0] M (some (.int xr)) N := by
  refine ct_of (lv := [some (.retAddr a0)]) (by decide) (Nat.le_of_ble_eq_true rfl) rfl rfl (fun z hz => ?_)
  unfold fJ0_coder at h
  obtain ⟨g, h⟩ := ck_inv h
  cases h
  refine v_getCS hz w1 dJ0_coder_7d493_0 ?_
  refine v_if_eq (tgt := 13) hz dJ0_coder_7d493_3 (by decide) (fun hc => absurd hc (by decide)) (fun _ => ?_)
  refine v_xload_n hz rfl rfl dJ0_coder_7d493_6 ?_
  refine v_xcod hz w2 dJ0_coder_7d493_7 g ?_
  refine v_goto (tgt := 14) hz dJ0_coder_7d493_10 (by decide) ?_
  exact v_bret0 hz dJ0_coder_7d493_14 (by decide) (by decide)
def fJ0_isLatin1 (M : Mem) (j : Nat) : Option (Int32 × Mem) := ck (isS j) <| some (1, M)
theorem tJ0_isLatin1 (r : Nat) {fx : Fx} {al : Bool} {M N : Mem} {a0 : Nat} {xr : Int32} (w1 : Cond.fieldLink "java/lang/String" 38 "java/lang/String" "COMPACT_STRINGS" "Z" ∈ BIG) (w2 : Cond.fieldLink "java/lang/String" 15 "java/lang/String" "coder" "B" ∈ BIG) (h : fJ0_isLatin1 M a0 = some (xr, N)) : Ct fx yJ0_isLatin1_aae02 cJ0_isLatin1_aae02 1 (some .boolean) (r + 0) 0 0 al [.retAddr a0] M (some (.int xr)) N := by
  refine ct_of (lv := [some (.retAddr a0)]) (by decide) (Nat.le_of_ble_eq_true rfl) rfl rfl (fun z hz => ?_)
  unfold fJ0_isLatin1 at h
  obtain ⟨g, h⟩ := ck_inv h
  cases h
  refine v_getCS hz w1 dJ0_isLatin1_aae02_0 ?_
  refine v_if_eq (tgt := 17) hz dJ0_isLatin1_aae02_3 (by decide) (fun hc => absurd hc (by decide)) (fun _ => ?_)
  refine v_xload_n hz rfl rfl dJ0_isLatin1_aae02_6 ?_
  refine v_xcod hz w2 dJ0_isLatin1_aae02_7 g ?_
  refine v_if_ne (tgt := 17) hz dJ0_isLatin1_aae02_10 (by decide) (fun hc => absurd rfl hc) (fun _ => ?_)
  refine v_iconst hz (v := (1 : Int32)) (by decide) dJ0_isLatin1_aae02_13 ?_
  refine v_goto (tgt := 18) hz dJ0_isLatin1_aae02_14 (by decide) ?_
  exact v_zret hz (Or.inr rfl) dJ0_isLatin1_aae02_18 (by decide) (by decide)
