/-! ===== the words that are good to hand on ===== -/
def BIG : List Cond := lw_tbl.filter goodWord
theorem BIG_of {w : Cond} (i : Nat) (h : lw_tbl[i]? = some w) (hg : goodWord w = true) : w ∈ BIG := List.mem_filter.mpr ⟨List.mem_of_getElem? h, hg⟩
theorem BIG_good : GoodIn BIG BIG := fun w h => ⟨h, good_of_word (List.mem_filter.mp h).2⟩
theorem BIG_pos {ws : List Cond} (ps : List Nat) (h : ps.filterMap (fun i => lw_tbl[i]?) = ws) (hg : ws.all goodWord = true) : ∀ w ∈ ws, w ∈ BIG := by
  intro w hw
  refine List.mem_filter.mpr ⟨?_, List.all_eq_true.mp hg w hw⟩
  rw [← h] at hw
  obtain ⟨i, -, hi⟩ := List.mem_filterMap.mp hw
  exact List.mem_of_getElem? hi
/-! ===== what lies outside: strings, the static row, links of nest mates ===== -/
abbrev Fx : Type := Launch × va_G × (Nat → ClassId) × (Nat → Nat)
def tv (ad ex : Nat → Nat) (v : Value) : Value := match v with
  | .ref k => .ref (ad k)
  | .retAddr j => .ref (ex j)
  | v => v
theorem tv_cat (ad ex : Nat → Nat) (v : Value) : (tv ad ex v).category = v.category := by cases v <;> rfl
def tysF (cy : Nat → ClassId) : List (ClassId × FieldType) := [(cy 13, .byte), (cy 14, .int), (cy 15, .long), (cy 16, .boolean), (cy 17, .object "CarpetsLaw$Walker")]
def xNest : List (String × Nat × MethodName × String) := [("CarpetsLaw", 41, ⟨"CarpetsLaw$Statute", "<init>", "()V"⟩, "CarpetsLaw"), ("CarpetsLaw", 48, ⟨"CarpetsLaw$Deed", "<init>", "()V"⟩, "CarpetsLaw"), ("CarpetsLaw", 66, ⟨"CarpetsLaw$Walker", "<init>", "()V"⟩, "CarpetsLaw"), ("CarpetsLaw", 69, ⟨"CarpetsLaw$Train", "<init>", "()V"⟩, "CarpetsLaw"), ("CarpetsLaw$Train", 1, ⟨"CarpetsLaw$Walker", "<init>", "()V"⟩, "CarpetsLaw"), ("CarpetsLaw", 72, ⟨"CarpetsLaw$Socks", "<init>", "()V"⟩, "CarpetsLaw"), ("CarpetsLaw$Socks", 1, ⟨"CarpetsLaw$Walker", "<init>", "()V"⟩, "CarpetsLaw"), ("CarpetsLaw", 75, ⟨"CarpetsLaw$Kneeler", "<init>", "()V"⟩, "CarpetsLaw"), ("CarpetsLaw$Kneeler", 1, ⟨"CarpetsLaw$Walker", "<init>", "()V"⟩, "CarpetsLaw"), ("CarpetsLaw", 78, ⟨"CarpetsLaw$Guard", "<init>", "()V"⟩, "CarpetsLaw"), ("CarpetsLaw$Guard", 1, ⟨"CarpetsLaw$Train", "<init>", "()V"⟩, "CarpetsLaw"), ("CarpetsLaw", 81, ⟨"CarpetsLaw$Child", "<init>", "()V"⟩, "CarpetsLaw"), ("CarpetsLaw$Child", 1, ⟨"CarpetsLaw$Socks", "<init>", "()V"⟩, "CarpetsLaw"), ("CarpetsLaw", 84, ⟨"CarpetsLaw$Told", "<init>", "()V"⟩, "CarpetsLaw"), ("CarpetsLaw$Told", 3, ⟨"CarpetsLaw$Kneeler", "<init>", "()V"⟩, "CarpetsLaw"), ("CarpetsLaw$Hall", 87, ⟨"CarpetsLaw", "nextTo", "(II)I"⟩, "CarpetsLaw"), ("CarpetsLaw$Child", 17, ⟨"CarpetsLaw", "nextTo", "(II)I"⟩, "CarpetsLaw")]
def xCast : List String := ["CarpetsLaw$Child", "CarpetsLaw$Guard", "CarpetsLaw$Kneeler", "CarpetsLaw$Socks", "CarpetsLaw$Told", "CarpetsLaw$Train"]
def xNot : List String := ["CarpetsLaw$Child", "CarpetsLaw$Guard", "CarpetsLaw$Kneeler", "CarpetsLaw$Socks", "CarpetsLaw$Train", "CarpetsLaw$Walker"]
def xRef : List (String × Nat × String × Nat) := [("CarpetsLaw$Statute", 52, "draw ", 0), ("CarpetsLaw$Statute", 58, "ba", 1), ("CarpetsLaw$Statute", 78, "ld ", 2), ("CarpetsLaw$Statute", 63, "r ", 3), ("CarpetsLaw$Statute", 68, " ", 4), ("CarpetsLaw$Statute", 88, "pkvcwh", 5), ("CarpetsLaw$Statute", 94, "<=>", 6), ("CarpetsLaw$Statute", 86, ")", 7), ("CarpetsLawModel", 192, "draw ", 0), ("CarpetsLawModel", 198, "bar ", 8), ("CarpetsLawModel", 200, "bald ", 9), ("CarpetsLawModel", 161, "pkvcwh", 5), ("CarpetsLawModel", 166, "<=>", 6)]
def xLen : List Nat := [5, 2, 3, 2, 1, 6, 3, 1, 4, 5]
def xByt : List (List Int32) := [[100, 114, 97, 119, 32], [98, 97], [108, 100, 32], [114, 32], [32], [112, 107, 118, 99, 119, 104], [60, 61, 62], [41], [98, 97, 114, 32], [98, 97, 108, 100, 32]]
def xAbove : List Int32 := [-1, 0, 0, 0, 1, 2, 3]
def Ext (ex : Nat → Nat) (A : Nat → Prop) (U : State) (H : Heap) : Prop :=
  (∀ q ∈ xNest, va_Nw (.methodLinkNest q.1 q.2.1 q.2.2.1 q.2.2.2) U) ∧ (∀ C ∈ xCast, va_Nw (.castable C "CarpetsLaw$Walker") U) ∧ (∀ C ∈ xNot, va_Nc C "CarpetsLaw$Told" U) ∧ va_AO "CarpetsLaw$Walker" U ∧
  vk_S 10 xLen xByt (fun j => ex j) (fun j => ex (10 + j)) A U H ∧ (∀ q ∈ xRef, vk_R q.1 q.2.1 q.2.2.1 (ex q.2.2.2) U) ∧ va_Z "java/lang/String" "COMPACT_STRINGS" "Z" (.int 1) A U H ∧
  va_Z "CarpetsLaw" "KIND_ABOVE" "[I" (.ref (ex 20)) A U H ∧ va_T .int (ex 20) 7 (fun j => .int (xAbove.getD j 0)) A U H ∧ (va_Z "jdk/internal/util/Preconditions" "SIOOBE_FORMATTER" "Ljava/util/function/BiFunction;" .null A U H ∨ va_Z "jdk/internal/util/Preconditions" "SIOOBE_FORMATTER" "Ljava/util/function/BiFunction;" (.ref (ex 21)) A U H)
theorem Ext.go {ex : Nat → Nat} {A : Nat → Prop} {s U : State} {H H1 : Heap} (h : Ext ex A s H) (hW : s.WarmedH U.vm) (hq : ∀ a : Nat, a < H.size → ¬ A a → H1[a]? = H[a]?) : Ext ex A U H1 := by
  obtain ⟨h1, h2, h3, h4, h5, h6, h7, h8, h9, h10⟩ := h
  refine ⟨fun q hq => (h1 q hq).warmM hW, fun C hC => ?_, fun C hC => (h3 C hC).moved hW.alike, h4.moved hW.alike, (h5.kept hq).moved hW.alike, fun q hq => (h6 q hq).warm hW, (h7.kept hq).moved hW.alike, (h8.kept hq).moved hW.alike, (h9.kept hq).moved hW.alike, h10.elim (fun h => Or.inl ((h.kept hq).moved hW.alike)) (fun h => Or.inr ((h.kept hq).moved hW.alike))⟩
  exact (h2 C hC).warmC hW
theorem Ext.narrow {ex : Nat → Nat} {A B : Nat → Prop} {U : State} {H : Heap} (h : Ext ex A U H) (hAB : ∀ q, B q → A q) : Ext ex B U H := by
  obtain ⟨h1, h2, h3, h4, h5, h6, h7, h8, h9, h10⟩ := h
  exact ⟨h1, h2, h3, h4, h5.narrow hAB, h6, h7.narrow hAB, h8.narrow hAB, h9.narrow hAB, h10.elim (fun h => Or.inl (h.narrow hAB)) (fun h => Or.inr (h.narrow hAB))⟩
/-! ===== contracts ===== -/
def rk (r mc ms : Nat) : Room := { frames := r, cells := mc, slots := ms, locals := 40 * r }
/-- what a method finds -/
def Px (fx : Fx) (ad : Nat → Nat) (al : Bool) (M : Mem) (U : State) : Prop :=
  va_P fx.2.1 vwCl (wl fx.2.2.1 ad M) U.heap ∧ va_K fx.2.1 vwCl (tysF fx.2.2.1) U ∧ (al = true → ∀ j, ad (mN M + j) = U.heap.size + j) ∧ Ext fx.2.2.2 (Ad ad) U U.heap
/-- what it leaves -/
def Qx (fx : Fx) (ad : Nat → Nat) (al : Bool) (rv : Option Value) (N : Mem) : Array Value → State → Outcome → State → Prop := fun _ st oc t =>
  (oc = .returned (rv.map (tv ad fx.2.2.2)) ∧ va_P fx.2.1 vwCl (wl fx.2.2.1 ad N) t.heap ∧ (al = true → ∀ j, ad (mN N + j) = t.heap.size + j)) ∧ va_F (Ad ad) st t
def Ct (fx : Fx) (y : MethodName) (cc : ByteArray) (maxL : Nat) (rt : Option FieldType) (r mc ms : Nat) (al : Bool) (av : List Value) (M : Mem) (rv : Option Value) (N : Mem) : Prop :=
  ∀ ad : Nat → Nat, (∀ i j, ad i = ad j → i = j) → Met fx.1 y (.code y cc maxL rt :: BIG) (rk r mc ms) (va_Pc (av.map (tv ad fx.2.2.2)) (Px fx ad al M)) (Qx fx ad al rv N) mc ms (Ad ad)
/-! ===== the judgement: from here on the machine comes to the method's end ===== -/
abbrev Zx : Type := Program × Launch × Env × Room × State × MethodId × Array Value × List Frame × Method × Code × Fx × (Nat → Nat) × Bool × (State → Prop)
abbrev Zx.p (z : Zx) : Program := z.1
abbrev Zx.l (z : Zx) : Launch := z.2.1
abbrev Zx.e (z : Zx) : Env := z.2.2.1
abbrev Zx.R (z : Zx) : Room := z.2.2.2.1
abbrev Zx.s (z : Zx) : State := z.2.2.2.2.1
abbrev Zx.m (z : Zx) : MethodId := z.2.2.2.2.2.1
abbrev Zx.a (z : Zx) : Array Value := z.2.2.2.2.2.2.1
abbrev Zx.b (z : Zx) : List Frame := z.2.2.2.2.2.2.2.1
abbrev Zx.mt (z : Zx) : Method := z.2.2.2.2.2.2.2.2.1
abbrev Zx.c (z : Zx) : Code := z.2.2.2.2.2.2.2.2.2.1
abbrev Zx.fx (z : Zx) : Fx := z.2.2.2.2.2.2.2.2.2.2.1
abbrev Zx.ad (z : Zx) : Nat → Nat := z.2.2.2.2.2.2.2.2.2.2.2.1
abbrev Zx.al (z : Zx) : Bool := z.2.2.2.2.2.2.2.2.2.2.2.2.1
abbrev Zx.Q (z : Zx) : State → Prop := z.2.2.2.2.2.2.2.2.2.2.2.2.2
abbrev Zx.D (z : Zx) : va_G := z.fx.2.1
abbrev Zx.cy (z : Zx) : Nat → ClassId := z.fx.2.2.1
abbrev Zx.ex (z : Zx) : Nat → Nat := z.fx.2.2.2
/-- the locals: by their places; none where nothing is said -/
def lvh (z : Zx) (ls : Array Slot) (lv : List (Option Value)) : Prop := ls.size = lv.length ∧ lv_wf ls ∧ ∀ (i : Nat) (v : Value), lv[i]? = some (some v) → ls[i]? = some (.val (tv z.ad z.ex v))
def Wd (z : Zx) (M : Mem) (H : Heap) (locs : List Loc) : Prop := va_P z.D vwCl (wl z.cy z.ad M) H ∧ va_S (Ad z.ad) z.s.heap H locs ∧ (z.al = true → ∀ j, z.ad (mN M + j) = H.size + j)
def V (z : Zx) (pc : Nat) (lv : List (Option Value)) (st : List Value) (M : Mem) (nc ns : Nat) : Prop :=
  ∀ (H : Heap) (locs : List Loc) (ls : Array Slot), Wd z M H locs → lvh z ls lv → W z.p z.l z.e z.R z.s z.m z.a z.b z.mt z.c H locs nc ns z.Q (F0 z.m pc ls (st.map (tv z.ad z.ex)))
def Zok (z : Zx) (fx : Fx) (al : Bool) (own nm : String) (cc : ByteArray) (rt : Option FieldType) (nL r mc ms : Nat) (rv : Option Value) (N : Mem) : Prop :=
  z.p.tables.exec = Jvm.exec ∧ z.c.code = cc ∧ z.c.maxLocals = nL ∧ z.s.vm.findClass own = some z.m.cls ∧ (∀ w ∈ BIG, w.before z.a z.s = true) ∧ va_K z.D vwCl (tysF z.cy) z.s ∧ (∀ i j, z.ad i = z.ad j → i = j) ∧ z.mt.locks = false ∧ z.mt.sig.returnType = rt ∧ (r ≤ z.R.frames ∧ 40 * r ≤ z.R.locals ∧ mc ≤ z.R.cells ∧ ms ≤ z.R.slots) ∧ Ext z.ex (Ad z.ad) z.s z.s.heap ∧ z.l = z.fx.1 ∧ (rv = some (.float 0) ∨ z.Q = MQ z.b (Qx z.fx z.ad z.al rv N) z.a z.s mc ms (Ad z.ad)) ∧ z.mt.name = nm ∧ z.fx = fx ∧ z.al = al
section ZOK
variable {z : Zx} {fx : Fx} {al : Bool} {own nm : String} {cc : ByteArray} {rt : Option FieldType} {nL r mc ms : Nat} {rv : Option Value} {N : Mem}
theorem Zok.exec (h : Zok z fx al own nm cc rt nL r mc ms rv N) : z.p.tables.exec = Jvm.exec := h.1
theorem Zok.code (h : Zok z fx al own nm cc rt nL r mc ms rv N) : z.c.code = cc := h.2.1
theorem Zok.nl (h : Zok z fx al own nm cc rt nL r mc ms rv N) : z.c.maxLocals = nL := h.2.2.1
theorem Zok.hown (h : Zok z fx al own nm cc rt nL r mc ms rv N) : z.s.vm.findClass own = some z.m.cls := h.2.2.2.1
theorem Zok.ts (h : Zok z fx al own nm cc rt nL r mc ms rv N) : ∀ w ∈ BIG, w.before z.a z.s = true := h.2.2.2.2.1
theorem Zok.K (h : Zok z fx al own nm cc rt nL r mc ms rv N) : va_K z.D vwCl (tysF z.cy) z.s := h.2.2.2.2.2.1
theorem Zok.inj (h : Zok z fx al own nm cc rt nL r mc ms rv N) : ∀ i j, z.ad i = z.ad j → i = j := h.2.2.2.2.2.2.1
theorem Zok.locks (h : Zok z fx al own nm cc rt nL r mc ms rv N) : z.mt.locks = false := h.2.2.2.2.2.2.2.1
theorem Zok.ret (h : Zok z fx al own nm cc rt nL r mc ms rv N) : z.mt.sig.returnType = rt := h.2.2.2.2.2.2.2.2.1
theorem Zok.rf (h : Zok z fx al own nm cc rt nL r mc ms rv N) : r ≤ z.R.frames := h.2.2.2.2.2.2.2.2.2.1.1
theorem Zok.rl (h : Zok z fx al own nm cc rt nL r mc ms rv N) : 40 * r ≤ z.R.locals := h.2.2.2.2.2.2.2.2.2.1.2.1
theorem Zok.rc (h : Zok z fx al own nm cc rt nL r mc ms rv N) : mc ≤ z.R.cells := h.2.2.2.2.2.2.2.2.2.1.2.2.1
theorem Zok.rs (h : Zok z fx al own nm cc rt nL r mc ms rv N) : ms ≤ z.R.slots := h.2.2.2.2.2.2.2.2.2.1.2.2.2
theorem Zok.rk {mc1 ms1 maxL : Nat} (h : Zok z fx al own nm cc rt nL (r + 1) mc ms rv N) (hml : maxL ≤ 21) : (rk r mc1 ms1).frames + 1 ≤ z.R.frames ∧ 8 + (maxL + 11) + (rk r mc1 ms1).locals ≤ z.R.locals := ⟨h.rf, by have h9 := h.rl; show 8 + (maxL + 11) + 40 * r ≤ _; omega⟩
theorem Zok.ext (h : Zok z fx al own nm cc rt nL r mc ms rv N) : Ext z.ex (Ad z.ad) z.s z.s.heap := h.2.2.2.2.2.2.2.2.2.2.1
theorem Zok.el (h : Zok z fx al own nm cc rt nL r mc ms rv N) : z.l = z.fx.1 := h.2.2.2.2.2.2.2.2.2.2.2.1
theorem Zok.eQ (h : Zok z fx al own nm cc rt nL r mc ms rv N) (hne : rv ≠ some (.float 0)) : z.Q = MQ z.b (Qx z.fx z.ad z.al rv N) z.a z.s mc ms (Ad z.ad) := h.2.2.2.2.2.2.2.2.2.2.2.2.1.resolve_left hne
theorem Zok.nam (h : Zok z fx al own nm cc rt nL r mc ms rv N) : z.mt.name = nm := h.2.2.2.2.2.2.2.2.2.2.2.2.2.1
theorem Zok.efx (h : Zok z fx al own nm cc rt nL r mc ms rv N) : z.fx = fx := h.2.2.2.2.2.2.2.2.2.2.2.2.2.2.1
theorem Zok.eal (h : Zok z fx al own nm cc rt nL r mc ms rv N) : z.al = al := h.2.2.2.2.2.2.2.2.2.2.2.2.2.2.2
theorem Zok.D (h : Zok z fx al own nm cc rt nL r mc ms rv N) (M : Mem) : va_D (Ad z.ad) (wl z.cy z.ad M) := wl_D h.inj
end ZOK
/-! ===== locals ===== -/
theorem lvh_at {z : Zx} {ls : Array Slot} {lv : List (Option Value)} (h : lvh z ls lv) {i : Nat} {v : Value} (hv : lv[i]? = some (some v)) : ls[i]? = some (.val (tv z.ad z.ex v)) := h.2.2 i v hv
/-- what is known of the locals as the kit has it -/
def asc (z : Zx) (lv : List (Option Value)) : List (Nat × Value) := (List.range lv.length).filterMap (fun i => match lv[i]? with
  | some (some v) => some (i, tv z.ad z.ex v)
  | _ => none)
theorem asc_mem {z : Zx} {lv : List (Option Value)} {i : Nat} {v : Value} (h : lv[i]? = some (some v)) : (i, tv z.ad z.ex v) ∈ asc z lv := by
  refine List.mem_filterMap.mpr ⟨i, List.mem_range.mpr (List.getElem?_eq_some_iff.mp h).1, ?_⟩
  rw [h]
theorem asc_of {z : Zx} {lv : List (Option Value)} {q : Nat × Value} (h : q ∈ asc z lv) : ∃ v, lv[q.1]? = some (some v) ∧ q.2 = tv z.ad z.ex v := by
  obtain ⟨i, -, hi⟩ := List.mem_filterMap.mp h
  split at hi
  · rename_i v hv
    cases hi
    exact ⟨v, hv, rfl⟩
  · cases hi
theorem lvh_has {z : Zx} {ls : Array Slot} {lv : List (Option Value)} (h : lvh z ls lv) : lv_has ls lv.length (asc z lv) := by
  refine ⟨h.1, h.2.1, fun q hq => ?_⟩
  obtain ⟨v, h1, h2⟩ := asc_of hq
  rw [h2]
  exact h.2.2 _ _ h1
/-- the place ahead isn't a long's -/
def okst (lv : List (Option Value)) (i : Nat) : Bool := match i with
  | 0 => true
  | i + 1 => match lv[i]? with
    | some (some v) => v.category == 1
    | _ => true
theorem lvh_set {z : Zx} {ls ls' : Array Slot} {lv : List (Option Value)} {i : Nat} {v : Value} (h : lvh z ls lv) (hi : i < lv.length) (hk : okst lv i = true) (hs : lv_has ls' lv.length ((i, tv z.ad z.ex v) :: (asc z lv).filter (fun q => !(q.1 == i) && !(q.1 + 1 == i && q.2.category == 2)))) : lvh z ls' (lv.set i (some v)) := by
  refine ⟨by rw [List.length_set]; exact hs.1, hs.2.1, fun j w hj => ?_⟩
  by_cases e : j = i
  · subst e
    rw [List.getElem?_set_self hi] at hj
    cases hj
    exact hs.2.2 _ List.mem_cons_self
  · rw [List.getElem?_set_ne (Ne.symm e)] at hj
    refine hs.2.2 (j, tv z.ad z.ex w) (List.mem_cons_of_mem _ (List.mem_filter.mpr ⟨asc_mem hj, ?_⟩))
    by_cases e2 : j + 1 = i
    · subst e2
      have hc : w.category = 1 := by simpa [okst, hj] using hk
      simp [e, tv_cat, hc]
    · simp [e, e2]
/-- less is known -/
def lvle (lw lv : List (Option Value)) : Prop := match lw, lv with
  | [], [] => True
  | none :: a, _ :: b => lvle a b
  | some v :: a, w :: b => w = some v ∧ lvle a b
  | _, _ => False
theorem lvle_at : ∀ {lw lv : List (Option Value)}, lvle lw lv → lw.length = lv.length ∧ ∀ (i : Nat) (v : Value), lw[i]? = some (some v) → lv[i]? = some (some v)
  | [], [], _ => ⟨rfl, fun _ _ h => h⟩
  | none :: a, w :: b, h => by
    obtain ⟨h1, h2⟩ := lvle_at (lw := a) (lv := b) h
    refine ⟨by simp [h1], fun i v hi => ?_⟩
    cases i with
    | zero => cases hi
    | succ i => exact h2 i v hi
  | some x :: a, w :: b, h => by
    obtain ⟨h1, h2⟩ := lvle_at (lw := a) (lv := b) h.2
    refine ⟨by simp [h1], fun i v hi => ?_⟩
    cases i with
    | zero => rw [h.1]; exact hi
    | succ i => exact h2 i v hi
  | [], _ :: _, h => h.elim
  | none :: _, [], h => h.elim
  | some _ :: _, [], h => h.elim
theorem v_weak {z : Zx} {pc : Nat} {lw lv : List (Option Value)} {st : List Value} {M : Mem} {nc ns : Nat} (h : lvle lw lv) (k : V z pc lw st M nc ns) : V z pc lv st M nc ns := fun H locs ls hw hl =>
  k H locs ls hw ⟨hl.1.trans (lvle_at h).1.symm, hl.2.1, fun i v hi => hl.2.2 i v ((lvle_at h).2 i v hi)⟩
/-- the arguments in their places -/
def lay : List Value → List (Option Value)
  | [] => []
  | v :: vs => if v.category = 2 then some v :: none :: lay vs else some v :: lay vs
theorem lay_mem {ad ex : Nat → Nat} : ∀ (vs : List Value) (o i : Nat) (v : Value), (lay vs)[i]? = some (some v) → (o + i, tv ad ex v) ∈ lv_args o (vs.map (tv ad ex))
  | [], _, _, _, h => by simp [lay] at h
  | w :: vs, o, i, v, h => by
    by_cases hc : w.category = 2
    · rw [lay, if_pos hc] at h
      rw [List.map_cons, lv_args, tv_cat, if_pos hc]
      match i, h with
      | 0, h => cases h; exact List.mem_cons_self
      | 1, h => cases h
      | i + 2, h =>
        have := lay_mem (ad := ad) (ex := ex) vs (o + 2) i v h
        rw [show o + 2 + i = o + (i + 2) by omega] at this
        exact List.mem_cons_of_mem _ this
    · rw [lay, if_neg hc] at h
      rw [List.map_cons, lv_args, tv_cat, if_neg hc]
      match i, h with
      | 0, h => cases h; exact List.mem_cons_self
      | i + 1, h =>
        have := lay_mem (ad := ad) (ex := ex) vs (o + 1) i v h
        rw [show o + 1 + i = o + (i + 1) by omega] at this
        exact List.mem_cons_of_mem _ this
/-! ===== rules, an instruction each ===== -/
section RULES
variable {z : Zx} {fx : Fx} {al : Bool} {own nm : String} {cc : ByteArray} {rt : Option FieldType} {nL r mc ms : Nat} {rv : Option Value} {N : Mem} {pc : Nat} {lv : List (Option Value)} {st : List Value} {M : Mem} {nc ns : Nat}
theorem v_lv {lw : List (Option Value)} (h : lv = lw) (k : V z pc lw st M nc ns) : V z pc lv st M nc ns := h ▸ k
theorem v_mem {M' : Mem} (h : M = M') (k : V z pc lv st M' nc ns) : V z pc lv st M nc ns := h ▸ k
theorem v_iconst (hz : Zok z fx al own nm cc rt nL r mc ms rv N) {n : Int} {v : Int32} (hv : Int32.ofInt n = v) (hd : decode cc pc = .ok (.iconst n, 1)) (k : V z (pc + 1) lv (.int v :: st) M nc ns) : V z pc lv (st) M nc ns := fun H locs ls hw hl => lv_iconst hz.exec hz.code hd hv (k H locs ls hw hl)
theorem v_bipush (hz : Zok z fx al own nm cc rt nL r mc ms rv N) {n : Int} {v : Int32} (hv : (Int8.ofInt n).toInt32 = v) (hd : decode cc pc = .ok (.bipush n, 2)) (k : V z (pc + 2) lv (.int v :: st) M nc ns) : V z pc lv (st) M nc ns := fun H locs ls hw hl => lv_bipush hz.exec hz.code hd hv (k H locs ls hw hl)
theorem v_sipush (hz : Zok z fx al own nm cc rt nL r mc ms rv N) {n : Int} {v : Int32} (hv : (Int16.ofInt n).toInt32 = v) (hd : decode cc pc = .ok (.sipush n, 3)) (k : V z (pc + 3) lv (.int v :: st) M nc ns) : V z pc lv (st) M nc ns := fun H locs ls hw hl => lv_sipush hz.exec hz.code hd hv (k H locs ls hw hl)
theorem v_lconst (hz : Zok z fx al own nm cc rt nL r mc ms rv N) {n : Fin 2} {v : Int64} (hv : Int64.ofNat (n : Nat) = v) (hd : decode cc pc = .ok (.lconst n, 1)) (k : V z (pc + 1) lv (.long v :: st) M nc ns) : V z pc lv (st) M nc ns := fun H locs ls hw hl => lv_lconst hz.exec hz.code hd hv (k H locs ls hw hl)
theorem v_iload_n (hz : Zok z fx al own nm cc rt nL r mc ms rv N) {k : Fin 4} {i : Nat} {x : Int32} (hi : (k : Nat) = i) (hv : lv[i]? = some (some (.int x))) (hd : decode cc pc = .ok (.iload_n k, 1)) (k : V z (pc + 1) lv (.int x :: st) M nc ns) : V z pc lv (st) M nc ns := fun H locs ls hw hl => lv_iload_n hz.exec hz.code hd hi (lvh_at hl hv) (k H locs ls hw hl)
theorem v_iload (hz : Zok z fx al own nm cc rt nL r mc ms rv N) {i : Nat} {x : Int32} (hv : lv[i]? = some (some (.int x))) (hd : decode cc pc = .ok (.iload i, 2)) (k : V z (pc + 2) lv (.int x :: st) M nc ns) : V z pc lv (st) M nc ns := fun H locs ls hw hl => lv_iload hz.exec hz.code hd (lvh_at hl hv) (k H locs ls hw hl)
theorem v_lload_n (hz : Zok z fx al own nm cc rt nL r mc ms rv N) {k : Fin 4} {i : Nat} {x : Int64} (hi : (k : Nat) = i) (hv : lv[i]? = some (some (.long x))) (hd : decode cc pc = .ok (.lload_n k, 1)) (k : V z (pc + 1) lv (.long x :: st) M nc ns) : V z pc lv (st) M nc ns := fun H locs ls hw hl => lv_lload_n hz.exec hz.code hd hi (lvh_at hl hv) (k H locs ls hw hl)
theorem v_lload (hz : Zok z fx al own nm cc rt nL r mc ms rv N) {i : Nat} {x : Int64} (hv : lv[i]? = some (some (.long x))) (hd : decode cc pc = .ok (.lload i, 2)) (k : V z (pc + 2) lv (.long x :: st) M nc ns) : V z pc lv (st) M nc ns := fun H locs ls hw hl => lv_lload hz.exec hz.code hd (lvh_at hl hv) (k H locs ls hw hl)
theorem v_aload_n (hz : Zok z fx al own nm cc rt nL r mc ms rv N) {k : Fin 4} {i : Nat} {x : Nat} (hi : (k : Nat) = i) (hv : lv[i]? = some (some (.ref x))) (hd : decode cc pc = .ok (.aload_n k, 1)) (k : V z (pc + 1) lv (.ref x :: st) M nc ns) : V z pc lv (st) M nc ns := fun H locs ls hw hl => lv_aload_n hz.exec hz.code hd hi (lvh_at hl hv) (k H locs ls hw hl)
theorem v_aload (hz : Zok z fx al own nm cc rt nL r mc ms rv N) {i : Nat} {x : Nat} (hv : lv[i]? = some (some (.ref x))) (hd : decode cc pc = .ok (.aload i, 2)) (k : V z (pc + 2) lv (.ref x :: st) M nc ns) : V z pc lv (st) M nc ns := fun H locs ls hw hl => lv_aload hz.exec hz.code hd (lvh_at hl hv) (k H locs ls hw hl)
theorem v_xload_n (hz : Zok z fx al own nm cc rt nL r mc ms rv N) {k : Fin 4} {i : Nat} {x : Nat} (hi : (k : Nat) = i) (hv : lv[i]? = some (some (.retAddr x))) (hd : decode cc pc = .ok (.aload_n k, 1)) (k : V z (pc + 1) lv (.retAddr x :: st) M nc ns) : V z pc lv (st) M nc ns := fun H locs ls hw hl => lv_aload_n hz.exec hz.code hd hi (lvh_at hl hv) (k H locs ls hw hl)
theorem v_istore_n (hz : Zok z fx al own nm cc rt nL r mc ms rv N) {k : Fin 4} {i : Nat} {x : Int32} {lw : List (Option Value)} (hi : (k : Nat) = i) (hn : i < lv.length) (hk : okst lv i = true) (hs : lv.set i (some (.int x)) = lw) (hd : decode cc pc = .ok (.istore_n k, 1)) (k : V z (pc + 1) lw st M nc ns) : V z pc lv (.int x :: st) M nc ns := fun H locs ls hw hl => lv_istore_n hz.exec hz.code hd hi (lvh_has hl) hn rfl (fun ls' hl' => k H locs ls' hw (hs ▸ lvh_set (v := .int x) hl hn hk hl'))
theorem v_istore (hz : Zok z fx al own nm cc rt nL r mc ms rv N) {i : Nat} {x : Int32} {lw : List (Option Value)} (hn : i < lv.length) (hk : okst lv i = true) (hs : lv.set i (some (.int x)) = lw) (hd : decode cc pc = .ok (.istore i, 2)) (k : V z (pc + 2) lw st M nc ns) : V z pc lv (.int x :: st) M nc ns := fun H locs ls hw hl => lv_istore hz.exec hz.code hd (lvh_has hl) hn rfl (fun ls' hl' => k H locs ls' hw (hs ▸ lvh_set (v := .int x) hl hn hk hl'))
theorem v_astore_n (hz : Zok z fx al own nm cc rt nL r mc ms rv N) {k : Fin 4} {i : Nat} {x : Nat} {lw : List (Option Value)} (hi : (k : Nat) = i) (hn : i < lv.length) (hk : okst lv i = true) (hs : lv.set i (some (.ref x)) = lw) (hd : decode cc pc = .ok (.astore_n k, 1)) (k : V z (pc + 1) lw st M nc ns) : V z pc lv (.ref x :: st) M nc ns := fun H locs ls hw hl => lv_astore_n hz.exec hz.code hd hi (lvh_has hl) hn rfl (fun ls' hl' => k H locs ls' hw (hs ▸ lvh_set (v := .ref x) hl hn hk hl'))
theorem v_astore (hz : Zok z fx al own nm cc rt nL r mc ms rv N) {i : Nat} {x : Nat} {lw : List (Option Value)} (hn : i < lv.length) (hk : okst lv i = true) (hs : lv.set i (some (.ref x)) = lw) (hd : decode cc pc = .ok (.astore i, 2)) (k : V z (pc + 2) lw st M nc ns) : V z pc lv (.ref x :: st) M nc ns := fun H locs ls hw hl => lv_astore hz.exec hz.code hd (lvh_has hl) hn rfl (fun ls' hl' => k H locs ls' hw (hs ▸ lvh_set (v := .ref x) hl hn hk hl'))
theorem v_iinc (hz : Zok z fx al own nm cc rt nL r mc ms rv N) {i : Nat} {n : Int} {x v : Int32} {lw : List (Option Value)} (hg : lv[i]? = some (some (.int x))) (hv : x + Int32.ofInt n = v) (hk : okst lv i = true) (hs : lv.set i (some (.int v)) = lw) (hd : decode cc pc = .ok (.iinc i n, 3)) (k : V z (pc + 3) lw st M nc ns) : V z pc lv st M nc ns := by
  intro H locs ls hw hl
  obtain ⟨q, hq⟩ := List.getElem?_of_mem (asc_mem (z := z) hg)
  have hn := (List.getElem?_eq_some_iff.mp hg).1
  exact lv_iinc hz.exec hz.code hd (lvh_has hl) hq hv hn rfl (fun ls' hl' => k H locs ls' hw (hs ▸ lvh_set (v := .int v) hl hn hk hl'))
theorem v_iadd (hz : Zok z fx al own nm cc rt nL r mc ms rv N) {x y : Int32} (hd : decode cc pc = .ok (.iadd, 1)) (k : V z (pc + 1) lv (.int (x + y) :: st) M nc ns) : V z pc lv (.int y :: .int x :: st) M nc ns := fun H locs ls hw hl => lv_iadd hz.exec hz.code hd (k H locs ls hw hl)
theorem v_isub (hz : Zok z fx al own nm cc rt nL r mc ms rv N) {x y : Int32} (hd : decode cc pc = .ok (.isub, 1)) (k : V z (pc + 1) lv (.int (x - y) :: st) M nc ns) : V z pc lv (.int y :: .int x :: st) M nc ns := fun H locs ls hw hl => lv_isub hz.exec hz.code hd (k H locs ls hw hl)
theorem v_imul (hz : Zok z fx al own nm cc rt nL r mc ms rv N) {x y : Int32} (hd : decode cc pc = .ok (.imul, 1)) (k : V z (pc + 1) lv (.int (x * y) :: st) M nc ns) : V z pc lv (.int y :: .int x :: st) M nc ns := fun H locs ls hw hl => lv_imul hz.exec hz.code hd (k H locs ls hw hl)
theorem v_iand (hz : Zok z fx al own nm cc rt nL r mc ms rv N) {x y : Int32} (hd : decode cc pc = .ok (.iand, 1)) (k : V z (pc + 1) lv (.int (x &&& y) :: st) M nc ns) : V z pc lv (.int y :: .int x :: st) M nc ns := fun H locs ls hw hl => lv_iand hz.exec hz.code hd (k H locs ls hw hl)
theorem v_ior (hz : Zok z fx al own nm cc rt nL r mc ms rv N) {x y : Int32} (hd : decode cc pc = .ok (.ior, 1)) (k : V z (pc + 1) lv (.int (x ||| y) :: st) M nc ns) : V z pc lv (.int y :: .int x :: st) M nc ns := fun H locs ls hw hl => lv_ior hz.exec hz.code hd (k H locs ls hw hl)
theorem v_ixor (hz : Zok z fx al own nm cc rt nL r mc ms rv N) {x y : Int32} (hd : decode cc pc = .ok (.ixor, 1)) (k : V z (pc + 1) lv (.int (x ^^^ y) :: st) M nc ns) : V z pc lv (.int y :: .int x :: st) M nc ns := fun H locs ls hw hl => lv_ixor hz.exec hz.code hd (k H locs ls hw hl)
theorem v_ishl (hz : Zok z fx al own nm cc rt nL r mc ms rv N) {x y : Int32} (hd : decode cc pc = .ok (.ishl, 1)) (k : V z (pc + 1) lv (.int (x <<< (y &&& 31)) :: st) M nc ns) : V z pc lv (.int y :: .int x :: st) M nc ns := fun H locs ls hw hl => lv_ishl hz.exec hz.code hd (k H locs ls hw hl)
theorem v_ishr (hz : Zok z fx al own nm cc rt nL r mc ms rv N) {x y : Int32} (hd : decode cc pc = .ok (.ishr, 1)) (k : V z (pc + 1) lv (.int (x >>> (y &&& 31)) :: st) M nc ns) : V z pc lv (.int y :: .int x :: st) M nc ns := fun H locs ls hw hl => lv_ishr hz.exec hz.code hd (k H locs ls hw hl)
theorem v_idiv (hz : Zok z fx al own nm cc rt nL r mc ms rv N) {x y : Int32} (hne : ¬ y = 0) (hd : decode cc pc = .ok (.idiv, 1)) (k : V z (pc + 1) lv (.int (x / y) :: st) M nc ns) : V z pc lv (.int y :: .int x :: st) M nc ns := fun H locs ls hw hl => lv_idiv hz.exec hz.code hd hne (k H locs ls hw hl)
theorem v_irem (hz : Zok z fx al own nm cc rt nL r mc ms rv N) {x y : Int32} (hne : ¬ y = 0) (hd : decode cc pc = .ok (.irem, 1)) (k : V z (pc + 1) lv (.int (x - x / y * y) :: st) M nc ns) : V z pc lv (.int y :: .int x :: st) M nc ns := fun H locs ls hw hl => lv_irem hz.exec hz.code hd hne (k H locs ls hw hl)
theorem v_ineg (hz : Zok z fx al own nm cc rt nL r mc ms rv N) {x : Int32} (hd : decode cc pc = .ok (.ineg, 1)) (k : V z (pc + 1) lv (.int (-x) :: st) M nc ns) : V z pc lv (.int x :: st) M nc ns := fun H locs ls hw hl => lv_ineg hz.exec hz.code hd (k H locs ls hw hl)
theorem v_ladd (hz : Zok z fx al own nm cc rt nL r mc ms rv N) {x y : Int64} (hd : decode cc pc = .ok (.ladd, 1)) (k : V z (pc + 1) lv (.long (x + y) :: st) M nc ns) : V z pc lv (.long y :: .long x :: st) M nc ns := fun H locs ls hw hl => lv_ladd hz.exec hz.code hd (k H locs ls hw hl)
theorem v_land (hz : Zok z fx al own nm cc rt nL r mc ms rv N) {x y : Int64} (hd : decode cc pc = .ok (.land, 1)) (k : V z (pc + 1) lv (.long (x &&& y) :: st) M nc ns) : V z pc lv (.long y :: .long x :: st) M nc ns := fun H locs ls hw hl => lv_land hz.exec hz.code hd (k H locs ls hw hl)
theorem v_lor (hz : Zok z fx al own nm cc rt nL r mc ms rv N) {x y : Int64} (hd : decode cc pc = .ok (.lor, 1)) (k : V z (pc + 1) lv (.long (x ||| y) :: st) M nc ns) : V z pc lv (.long y :: .long x :: st) M nc ns := fun H locs ls hw hl => lv_lor hz.exec hz.code hd (k H locs ls hw hl)
theorem v_lshl (hz : Zok z fx al own nm cc rt nL r mc ms rv N) {x : Int64} {y : Int32} (hd : decode cc pc = .ok (.lshl, 1)) (k : V z (pc + 1) lv (.long (x <<< (y.toInt64 &&& 63)) :: st) M nc ns) : V z pc lv (.int y :: .long x :: st) M nc ns := fun H locs ls hw hl => lv_lshl hz.exec hz.code hd rfl (k H locs ls hw hl)
theorem v_lcmp (hz : Zok z fx al own nm cc rt nL r mc ms rv N) {x y : Int64} (hd : decode cc pc = .ok (.lcmp, 1)) (k : V z (pc + 1) lv (.int (lg_cmp x y) :: st) M nc ns) : V z pc lv (.long y :: .long x :: st) M nc ns := fun H locs ls hw hl => W.lcmp hz.exec hz.code hd (k H locs ls hw hl)
theorem v_i2l (hz : Zok z fx al own nm cc rt nL r mc ms rv N) {x : Int32} (hd : decode cc pc = .ok (.i2l, 1)) (k : V z (pc + 1) lv (.long (x.toInt64) :: st) M nc ns) : V z pc lv (.int x :: st) M nc ns := fun H locs ls hw hl => lv_i2l hz.exec hz.code hd rfl (k H locs ls hw hl)
theorem v_l2i (hz : Zok z fx al own nm cc rt nL r mc ms rv N) {x : Int64} (hd : decode cc pc = .ok (.l2i, 1)) (k : V z (pc + 1) lv (.int (x.toInt32) :: st) M nc ns) : V z pc lv (.long x :: st) M nc ns := fun H locs ls hw hl => lv_l2i hz.exec hz.code hd rfl (k H locs ls hw hl)
theorem v_i2b (hz : Zok z fx al own nm cc rt nL r mc ms rv N) {x : Int32} (hd : decode cc pc = .ok (.i2b, 1)) (k : V z (pc + 1) lv (.int (x.toInt8.toInt32) :: st) M nc ns) : V z pc lv (.int x :: st) M nc ns := fun H locs ls hw hl => lv_i2b hz.exec hz.code hd rfl (k H locs ls hw hl)
theorem v_i2s (hz : Zok z fx al own nm cc rt nL r mc ms rv N) {x : Int32} (hd : decode cc pc = .ok (.i2s, 1)) (k : V z (pc + 1) lv (.int (x.toInt16.toInt32) :: st) M nc ns) : V z pc lv (.int x :: st) M nc ns := fun H locs ls hw hl => lv_i2s hz.exec hz.code hd rfl (k H locs ls hw hl)
theorem v_i2c (hz : Zok z fx al own nm cc rt nL r mc ms rv N) {x : Int32} (hd : decode cc pc = .ok (.i2c, 1)) (k : V z (pc + 1) lv (.int ((x.toUInt32 % 65536).toInt32) :: st) M nc ns) : V z pc lv (.int x :: st) M nc ns := fun H locs ls hw hl => lv_i2c hz.exec hz.code hd rfl (k H locs ls hw hl)
theorem v_dup (hz : Zok z fx al own nm cc rt nL r mc ms rv N) {va : Value} (hva : va.category = 1) (hd : decode cc pc = .ok (.dup, 1)) (k : V z (pc + 1) lv (va :: va :: st) M nc ns) : V z pc lv (va :: st) M nc ns := fun H locs ls hw hl => lv_dup hz.exec hz.code hd (by rw [tv_cat]; exact hva) (k H locs ls hw hl)
theorem v_pop (hz : Zok z fx al own nm cc rt nL r mc ms rv N) {va : Value} (hva : va.category = 1) (hd : decode cc pc = .ok (.pop, 1)) (k : V z (pc + 1) lv (st) M nc ns) : V z pc lv (va :: st) M nc ns := fun H locs ls hw hl => lv_pop hz.exec hz.code hd (by rw [tv_cat]; exact hva) (k H locs ls hw hl)
theorem v_dup_x1 (hz : Zok z fx al own nm cc rt nL r mc ms rv N) {va vb : Value} (hva : va.category = 1) (hvb : vb.category = 1) (hd : decode cc pc = .ok (.dup_x1, 1)) (k : V z (pc + 1) lv (va :: vb :: va :: st) M nc ns) : V z pc lv (va :: vb :: st) M nc ns := fun H locs ls hw hl => lv_dup_x1 hz.exec hz.code hd (by rw [tv_cat]; exact hva) (by rw [tv_cat]; exact hvb) (k H locs ls hw hl)
theorem v_if_eq (hz : Zok z fx al own nm cc rt nL r mc ms rv N) {x : Int32} {off : Int} {tgt : Nat} (hd : decode cc pc = .ok (.ifCond .eq off, 3)) (ht : (pc : Int) + off = (tgt : Int)) (kt : x = 0 → V z tgt lv st M nc ns) (kf : ¬ (x = 0) → V z (pc + 3) lv st M nc ns) : V z pc lv (.int x :: st) M nc ns := fun H locs ls hw hl => lv_if_eq hz.exec hz.code hd ht (fun q => kt q H locs ls hw hl) (fun q => kf q H locs ls hw hl)
theorem v_icmp_eq (hz : Zok z fx al own nm cc rt nL r mc ms rv N) {x y : Int32} {off : Int} {tgt : Nat} (hd : decode cc pc = .ok (.if_icmp .eq off, 3)) (ht : (pc : Int) + off = (tgt : Int)) (kt : x = y → V z tgt lv st M nc ns) (kf : ¬ (x = y) → V z (pc + 3) lv st M nc ns) : V z pc lv (.int y :: .int x :: st) M nc ns := fun H locs ls hw hl => lv_icmp_eq hz.exec hz.code hd ht (fun q => kt q H locs ls hw hl) (fun q => kf q H locs ls hw hl)
theorem v_if_ne (hz : Zok z fx al own nm cc rt nL r mc ms rv N) {x : Int32} {off : Int} {tgt : Nat} (hd : decode cc pc = .ok (.ifCond .ne off, 3)) (ht : (pc : Int) + off = (tgt : Int)) (kt : ¬ x = 0 → V z tgt lv st M nc ns) (kf : x = 0 → V z (pc + 3) lv st M nc ns) : V z pc lv (.int x :: st) M nc ns := fun H locs ls hw hl => lv_if_ne hz.exec hz.code hd ht (fun q => kt q H locs ls hw hl) (fun q => kf q H locs ls hw hl)
theorem v_icmp_ne (hz : Zok z fx al own nm cc rt nL r mc ms rv N) {x y : Int32} {off : Int} {tgt : Nat} (hd : decode cc pc = .ok (.if_icmp .ne off, 3)) (ht : (pc : Int) + off = (tgt : Int)) (kt : ¬ x = y → V z tgt lv st M nc ns) (kf : x = y → V z (pc + 3) lv st M nc ns) : V z pc lv (.int y :: .int x :: st) M nc ns := fun H locs ls hw hl => lv_icmp_ne hz.exec hz.code hd ht (fun q => kt q H locs ls hw hl) (fun q => kf q H locs ls hw hl)
theorem v_if_lt (hz : Zok z fx al own nm cc rt nL r mc ms rv N) {x : Int32} {off : Int} {tgt : Nat} (hd : decode cc pc = .ok (.ifCond .lt off, 3)) (ht : (pc : Int) + off = (tgt : Int)) (kt : x < 0 → V z tgt lv st M nc ns) (kf : ¬ (x < 0) → V z (pc + 3) lv st M nc ns) : V z pc lv (.int x :: st) M nc ns := fun H locs ls hw hl => lv_if_lt hz.exec hz.code hd ht (fun q => kt q H locs ls hw hl) (fun q => kf q H locs ls hw hl)
theorem v_icmp_lt (hz : Zok z fx al own nm cc rt nL r mc ms rv N) {x y : Int32} {off : Int} {tgt : Nat} (hd : decode cc pc = .ok (.if_icmp .lt off, 3)) (ht : (pc : Int) + off = (tgt : Int)) (kt : x < y → V z tgt lv st M nc ns) (kf : ¬ (x < y) → V z (pc + 3) lv st M nc ns) : V z pc lv (.int y :: .int x :: st) M nc ns := fun H locs ls hw hl => lv_icmp_lt hz.exec hz.code hd ht (fun q => kt q H locs ls hw hl) (fun q => kf q H locs ls hw hl)
theorem v_if_ge (hz : Zok z fx al own nm cc rt nL r mc ms rv N) {x : Int32} {off : Int} {tgt : Nat} (hd : decode cc pc = .ok (.ifCond .ge off, 3)) (ht : (pc : Int) + off = (tgt : Int)) (kt : 0 ≤ x → V z tgt lv st M nc ns) (kf : ¬ (0 ≤ x) → V z (pc + 3) lv st M nc ns) : V z pc lv (.int x :: st) M nc ns := fun H locs ls hw hl => lv_if_ge hz.exec hz.code hd ht (fun q => kt q H locs ls hw hl) (fun q => kf q H locs ls hw hl)
theorem v_icmp_ge (hz : Zok z fx al own nm cc rt nL r mc ms rv N) {x y : Int32} {off : Int} {tgt : Nat} (hd : decode cc pc = .ok (.if_icmp .ge off, 3)) (ht : (pc : Int) + off = (tgt : Int)) (kt : y ≤ x → V z tgt lv st M nc ns) (kf : ¬ (y ≤ x) → V z (pc + 3) lv st M nc ns) : V z pc lv (.int y :: .int x :: st) M nc ns := fun H locs ls hw hl => lv_icmp_ge hz.exec hz.code hd ht (fun q => kt q H locs ls hw hl) (fun q => kf q H locs ls hw hl)
theorem v_if_gt (hz : Zok z fx al own nm cc rt nL r mc ms rv N) {x : Int32} {off : Int} {tgt : Nat} (hd : decode cc pc = .ok (.ifCond .gt off, 3)) (ht : (pc : Int) + off = (tgt : Int)) (kt : 0 < x → V z tgt lv st M nc ns) (kf : ¬ (0 < x) → V z (pc + 3) lv st M nc ns) : V z pc lv (.int x :: st) M nc ns := fun H locs ls hw hl => lv_if_gt hz.exec hz.code hd ht (fun q => kt q H locs ls hw hl) (fun q => kf q H locs ls hw hl)
theorem v_icmp_gt (hz : Zok z fx al own nm cc rt nL r mc ms rv N) {x y : Int32} {off : Int} {tgt : Nat} (hd : decode cc pc = .ok (.if_icmp .gt off, 3)) (ht : (pc : Int) + off = (tgt : Int)) (kt : y < x → V z tgt lv st M nc ns) (kf : ¬ (y < x) → V z (pc + 3) lv st M nc ns) : V z pc lv (.int y :: .int x :: st) M nc ns := fun H locs ls hw hl => lv_icmp_gt hz.exec hz.code hd ht (fun q => kt q H locs ls hw hl) (fun q => kf q H locs ls hw hl)
theorem v_if_le (hz : Zok z fx al own nm cc rt nL r mc ms rv N) {x : Int32} {off : Int} {tgt : Nat} (hd : decode cc pc = .ok (.ifCond .le off, 3)) (ht : (pc : Int) + off = (tgt : Int)) (kt : x ≤ 0 → V z tgt lv st M nc ns) (kf : ¬ (x ≤ 0) → V z (pc + 3) lv st M nc ns) : V z pc lv (.int x :: st) M nc ns := fun H locs ls hw hl => lv_if_le hz.exec hz.code hd ht (fun q => kt q H locs ls hw hl) (fun q => kf q H locs ls hw hl)
theorem v_icmp_le (hz : Zok z fx al own nm cc rt nL r mc ms rv N) {x y : Int32} {off : Int} {tgt : Nat} (hd : decode cc pc = .ok (.if_icmp .le off, 3)) (ht : (pc : Int) + off = (tgt : Int)) (kt : x ≤ y → V z tgt lv st M nc ns) (kf : ¬ (x ≤ y) → V z (pc + 3) lv st M nc ns) : V z pc lv (.int y :: .int x :: st) M nc ns := fun H locs ls hw hl => lv_icmp_le hz.exec hz.code hd ht (fun q => kt q H locs ls hw hl) (fun q => kf q H locs ls hw hl)
theorem v_goto (hz : Zok z fx al own nm cc rt nL r mc ms rv N) {off : Int} {tgt : Nat} (hd : decode cc pc = .ok (.goto off, 3)) (ht : (pc : Int) + off = (tgt : Int)) (k : V z tgt lv st M nc ns) : V z pc lv st M nc ns := fun H locs ls hw hl => lv_goto hz.exec hz.code hd ht (k H locs ls hw hl)
theorem v_tableOut (hz : Zok z fx al own nm cc rt nL r mc ms rv N) {dflt lo hi : Int} {offs : Array Int} {len : Nat} {x : Int32} {tgt : Nat} (hd : decode cc pc = .ok (.tableswitch dflt lo hi offs, len)) (h : x.toInt < lo ∨ hi < x.toInt) (ht : (pc : Int) + dflt = (tgt : Int)) (k : V z tgt lv st M nc ns) : V z pc lv (.int x :: st) M nc ns := fun H locs ls hw hl => lv_tableOut hz.exec hz.code hd h ht (k H locs ls hw hl)
theorem v_tableIn (hz : Zok z fx al own nm cc rt nL r mc ms rv N) {dflt lo hi : Int} {offs : Array Int} {len : Nat} {x : Int32} {off : Int} {tgt : Nat} (hd : decode cc pc = .ok (.tableswitch dflt lo hi offs, len)) (h1 : ¬ x.toInt < lo) (h2 : ¬ hi < x.toInt) (ho : offs[(x.toInt - lo).toNat]? = some off) (ht : (pc : Int) + off = (tgt : Int)) (k : V z tgt lv st M nc ns) : V z pc lv (.int x :: st) M nc ns := fun H locs ls hw hl => lv_tableIn hz.exec hz.code hd h1 h2 ho ht (k H locs ls hw hl)
theorem v_lookup (hz : Zok z fx al own nm cc rt nL r mc ms rv N) {dflt : Int} {ps : Array (Int × Int)} {len : Nat} {x : Int32} {off : Int} {tgt : Nat} (hd : decode cc pc = .ok (.lookupswitch dflt ps, len)) (hp : (ps.toList.zip (ps.toList.drop 1)).all (fun (a, next) => a.1 < next.1) = true) (ho : Op.lookupswitch.offset ps.toList dflt x.toInt = off) (ht : (pc : Int) + off = (tgt : Int)) (k : V z tgt lv st M nc ns) : V z pc lv (.int x :: st) M nc ns := fun H locs ls hw hl => lv_lookup hz.exec hz.code hd hp ho ht (k H locs ls hw hl)
theorem v_ldc (hz : Zok z fx al own nm cc rt nL r mc ms rv N) {idx : Nat} {v : Int32} (hw0 : Cond.constant own idx v ∈ BIG) (hd : decode cc pc = .ok (.ldc idx, 2)) (k : V z (pc + 2) lv (.int v :: st) M nc ns) : V z pc lv st M nc ns := fun H locs ls hw hl => lv_ldc hz.exec hz.code hz.hown (hz.ts _ hw0) hd (k H locs ls hw hl)
theorem v_ldc2 (hz : Zok z fx al own nm cc rt nL r mc ms rv N) {idx : Nat} {v : Int64} (hw0 : Cond.constantLong own idx v ∈ BIG) (hd : decode cc pc = .ok (.ldc2_w idx, 3)) (k : V z (pc + 3) lv (.long v :: st) M nc ns) : V z pc lv st M nc ns := fun H locs ls hw hl => lv_ldc2 hz.exec hz.code hz.hown (hz.ts _ hw0) hd (k H locs ls hw hl)
theorem v_ldcS (hz : Zok z fx al own nm cc rt nL r mc ms rv N) {idx j : Nat} {tx : String} (hw0 : (own, idx, tx, j) ∈ xRef) (hd : decode cc pc = .ok (.ldc idx, 2)) (k : V z (pc + 2) lv (.retAddr j :: st) M nc ns) : V z pc lv st M nc ns := fun H locs ls hw hl => va_ldcS hz.exec hz.code hz.hown (hz.ext.2.2.2.2.2.1 _ hw0) hd (k H locs ls hw hl)
end RULES
