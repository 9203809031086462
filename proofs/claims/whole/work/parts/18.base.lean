/-! ===== what the methods' functions are made of ===== -/
/-- some large number of rounds (not to be counted out) -/
theorem FU_ex : ∃ n : Nat, 1000000 ≤ n := ⟨1000000, Nat.le_refl _⟩
noncomputable def FU : Nat := Classical.choose FU_ex
theorem FU_ge : 1000000 ≤ FU := Classical.choose_spec FU_ex
def ck {α : Type} (b : Bool) (k : Option α) : Option α := match b with
  | true => k
  | false => none
def bd {α β : Type} (o : Option (α × Mem)) (k : α → Mem → Option β) : Option β := match o with
  | some q => k q.1 q.2
  | none => none
def rb {β : Type} (o : Option Nat) (k : Nat → Option β) : Option β := match o with
  | some q => k q
  | none => none
def nm {α β : Type} (a : α) (k : α → Option β) : Option β := k a
theorem ck_inv {α : Type} {b : Bool} {k : Option α} {x : α} (h : ck b k = some x) : b = true ∧ k = some x := by
  cases b with
  | true => exact ⟨rfl, h⟩
  | false => cases h
theorem bd_inv {α β : Type} {o : Option (α × Mem)} {k : α → Mem → Option β} {y : β} (h : bd o k = some y) : ∃ x M, o = some (x, M) ∧ k x M = some y := by
  cases o with
  | none => cases h
  | some q => exact ⟨q.1, q.2, rfl, h⟩
theorem rb_inv {β : Type} {o : Option Nat} {k : Nat → Option β} {y : β} (h : rb o k = some y) : ∃ b, o = some b ∧ k b = some y := by
  cases o with
  | none => cases h
  | some q => exact ⟨q, rfl, h⟩
theorem nm_inv {α β : Type} {a : α} {k : α → Option β} {y : β} (h : nm a k = some y) : ∃ b, b = a ∧ k b = some y := ⟨a, rfl, h⟩
theorem sp_inv {α β : Type} {a x : α} {b y : β} (h : some (a, b) = some (x, y)) : x = a ∧ y = b := by
  cases h
  exact ⟨rfl, rfl⟩
theorem ck_t {α : Type} {k : Option α} : ck true k = k := rfl
theorem bd_s {α β : Type} {x : α} {M : Mem} {k : α → Mem → Option β} : bd (some (x, M)) k = k x M := rfl
theorem rb_s {β : Type} {b : Nat} {k : Nat → Option β} : rb (some b) k = k b := rfl
theorem nm_s {α β : Type} {a : α} {k : α → Option β} : nm a k = k a := rfl
def isK (M : Mem) (a c : Nat) : Bool := decide (a < mN M) && decide (mK M a = c)
theorem isK_of {M : Mem} {a c : Nat} (h : isK M a c = true) : a < mN M ∧ mK M a = c := by
  simpa [isK] using h
/-- one of the kinds of people -/
def isW (M : Mem) (a : Nat) : Bool := decide (a < mN M) && decide (mK M a = 0 ∨ mK M a = 2 ∨ mK M a = 4 ∨ mK M a = 6 ∨ mK M a = 8 ∨ mK M a = 9 ∨ mK M a = 10)
theorem isW_of {M : Mem} {a : Nat} (h : isW M a = true) : a < mN M ∧ (mK M a = 0 ∨ mK M a = 2 ∨ mK M a = 4 ∨ mK M a = 6 ∨ mK M a = 8 ∨ mK M a = 9 ∨ mK M a = 10) := by
  simpa [isW] using h
def b01 (x : Int32) : Bool := decide (x = 0) || decide (x = 1)
theorem b01_of {x : Int32} (h : b01 x = true) : x = 0 ∨ x = 1 := by simpa [b01] using h
def allb (M : Mem) (a sp n : Nat) : Bool := (List.range n).all (fun i => b01 (mI M a (sp + i)))
theorem allb_of {M : Mem} {a sp n : Nat} (h : allb M a sp n = true) : ∀ i, i < n → (mI M a (sp + i) = 0 ∨ mI M a (sp + i) = 1) := fun i hi => b01_of (List.all_eq_true.mp h i (List.mem_range.mpr hi))
theorem lvle_0 : lvle [] [] := trivial
theorem lvle_n {a b : List (Option Value)} {w : Option Value} (h : lvle a b) : lvle (none :: a) (w :: b) := h
theorem lvle_s {a b : List (Option Value)} {v : Value} (h : lvle a b) : lvle (some v :: a) (some v :: b) := ⟨rfl, h⟩
def inst8 (M : Mem) (a : Nat) : Option (Int32 × Mem) := ck (isW M a) <| if mK M a = 8 then some (1, M) else some (0, M)
section BASE
variable {z : Zx} {fx : Fx} {al : Bool} {own nm : String} {cc : ByteArray} {rt : Option FieldType} {nL r mc ms : Nat} {rv : Option Value} {N : Mem} {pc : Nat} {lv : List (Option Value)} {st : List Value} {M : Mem} {nc ns : Nat}
theorem v_wide {nc2 ns2 : Nat} (h1 : nc ≤ nc2) (h2 : ns ≤ ns2) (kk : V z pc lv st M nc2 ns2) : V z pc lv st M nc ns := fun H locs ls hw hl => W.widen (k := nc2) (n := ns2) h1 h2 (kk H locs ls hw hl)
theorem v_tableAt (hz : Zok z fx al own nm cc rt nL r mc ms rv N) {dflt lo hi : Int} {offs : Array Int} {len : Nat} {x k : Int32} {tgt : Nat} (hx : x = k) (hd : decode cc pc = .ok (.tableswitch dflt lo hi offs, len)) (h1 : ¬ k.toInt < lo) (h2 : ¬ hi < k.toInt) (ho : offs[(k.toInt - lo).toNat]? = some ((tgt : Int) - (pc : Int))) (ht : True) (kk : V z tgt lv st M nc ns) : V z pc lv (.int x :: st) M nc ns := by
  subst hx
  exact v_tableIn hz hd h1 h2 ho (by omega) kk
theorem v_lookAt (hz : Zok z fx al own nm cc rt nL r mc ms rv N) {dflt : Int} {ps : Array (Int × Int)} {len : Nat} {x k : Int32} {tgt : Nat} (hx : x = k) (hd : decode cc pc = .ok (.lookupswitch dflt ps, len)) (hp : (ps.toList.zip (ps.toList.drop 1)).all (fun (a, next) => a.1 < next.1) = true) (ho : Op.lookupswitch.offset ps.toList dflt k.toInt = (tgt : Int) - (pc : Int)) (ht : True) (kk : V z tgt lv st M nc ns) : V z pc lv (.int x :: st) M nc ns := by
  subst hx
  exact v_lookup hz hd hp ho (by omega) kk
theorem v_inst8 (hz : Zok z fx al own nm cc rt nL r mc ms rv N) {idx a : Nat} {x : Int32} {M1 : Mem} (hw0 : Cond.classLink own idx "CarpetsLaw$Told" ∈ BIG) (hd : decode cc pc = .ok (.instanceof idx, 3)) (h : inst8 M a = some (x, M1)) (kk : V z (pc + 3) lv (.int x :: st) M1 nc ns) : V z pc lv (.ref a :: st) M nc ns := by
  unfold inst8 at h
  obtain ⟨g, h⟩ := ck_inv h
  obtain ⟨ha, hk⟩ := isW_of g
  by_cases h8 : mK M a = 8
  · replace h := (if_pos h8).symm.trans h
    cases h
    exact v_instY hz hw0 hd ha h8 kk
  · replace h := (if_neg h8).symm.trans h
    cases h
    rcases hk with e | e | e | e | e | e | e
    · exact v_instN hz hw0 hd ha e (by decide) rfl (by decide +kernel) kk
    · exact v_instN hz hw0 hd ha e (by decide) rfl (by decide +kernel) kk
    · exact v_instN hz hw0 hd ha e (by decide) rfl (by decide +kernel) kk
    · exact v_instN hz hw0 hd ha e (by decide) rfl (by decide +kernel) kk
    · exact absurd e h8
    · exact v_instN hz hw0 hd ha e (by decide) rfl (by decide +kernel) kk
    · exact v_instN hz hw0 hd ha e (by decide) rfl (by decide +kernel) kk
theorem v_callSUw (hz : Zok z fx al own nm cc rt nL (r + 1) mc ms rv N) {idx n maxL b mc1 ms1 : Nat} {x y : MethodName} {c1 : ByteArray} {rt1 : Option FieldType} {As : List Value} {rv1 : Option Value} {M1 : Mem} {st0 : List Value}
    (hv : UPL own idx x y c1 maxL rt1 n) (hM : Ct fx y c1 maxL rt1 r mc1 ms1 al (.ref b :: As) M rv1 M1) (hg : isW M b = true) (hn : As.length = n) (hll : lv.length = nL) (hst0 : st0 = As.reverse ++ .ref b :: st) (hroom : (st.map fun v => v.category).sum ≤ 8) (hc : nc + mc1 ≤ mc ∧ ns + ms1 ≤ ms) (hd : decode cc pc = .ok (.invokespecial idx, 3))
    (kk : V z (pc + 3) lv (rv1.toList ++ st) M1 (nc + mc1) (ns + ms1)) : V z pc lv st0 M nc ns := by
  obtain ⟨ha, hk⟩ := isW_of hg
  rcases hk with e | e | e | e | e | e | e
  · exact v_callSU hz hv hM (ci := 0) rfl (by decide) ha e hn hll hst0 hroom hc hd kk
  · exact v_callSU hz hv hM (ci := 2) rfl (by decide) ha e hn hll hst0 hroom hc hd kk
  · exact v_callSU hz hv hM (ci := 4) rfl (by decide) ha e hn hll hst0 hroom hc hd kk
  · exact v_callSU hz hv hM (ci := 6) rfl (by decide) ha e hn hll hst0 hroom hc hd kk
  · exact v_callSU hz hv hM (ci := 8) rfl (by decide) ha e hn hll hst0 hroom hc hd kk
  · exact v_callSU hz hv hM (ci := 9) rfl (by decide) ha e hn hll hst0 hroom hc hd kk
  · exact v_callSU hz hv hM (ci := 10) rfl (by decide) ha e hn hll hst0 hroom hc hd kk
end BASE
