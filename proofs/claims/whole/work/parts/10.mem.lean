/-! ===== a memory of cells by their own numbers: kinds, lengths, references, ints, longs ===== -/
abbrev Mr : Type := Nat → Nat → Option Nat
abbrev Mi : Type := Nat → Nat → Int32
abbrev Ml : Type := Nat → Nat → Int64
abbrev Mem : Type := (Nat × (Nat → Nat) × (Nat → Nat) × Mr) × Mi × Ml
def mN (M : Mem) : Nat := M.1.1
def mK (M : Mem) (a : Nat) : Nat := M.1.2.1 a
def mG (M : Mem) (a : Nat) : Nat := M.1.2.2.1 a
def mR (M : Mem) (a i : Nat) : Option Nat := M.1.2.2.2 a i
def mI (M : Mem) (a i : Nat) : Int32 := M.2.1 a i
def mL (M : Mem) (a i : Nat) : Int64 := M.2.2 a i
def up2 {α : Type} (f : Nat → Nat → α) (a i : Nat) (x : α) : Nat → Nat → α := fun b j => if b = a ∧ j = i then x else f b j
def stI (M : Mem) (a i : Nat) (x : Int32) : Mem := (M.1, up2 M.2.1 a i x, M.2.2)
def stL (M : Mem) (a i : Nat) (x : Int64) : Mem := (M.1, M.2.1, up2 M.2.2 a i x)
def stR (M : Mem) (a i : Nat) (r : Option Nat) : Mem := ((M.1.1, M.1.2.1, M.1.2.2.1, up2 M.1.2.2.2 a i r), M.2.1, M.2.2)
/-- n places of a from sp on come to b from dp on -/
def cpI (M : Mem) (a b sp dp n : Nat) : Mem := (M.1, (fun c j => if c = b ∧ dp ≤ j ∧ j < dp + n then M.2.1 a (sp + (j - dp)) else M.2.1 c j), M.2.2)
def cpL (M : Mem) (a b sp dp n : Nat) : Mem := (M.1, M.2.1, fun c j => if c = b ∧ dp ≤ j ∧ j < dp + n then M.2.2 a (sp + (j - dp)) else M.2.2 c j)
/-- a new cell, of a kind and a length, all 0 -/
def alc (M : Mem) (k n : Nat) : Mem := ((M.1.1 + 1, va_up M.1.2.1 M.1.1 k, va_up M.1.2.2.1 M.1.1 n, va_up M.1.2.2.2 M.1.1 (fun _ => none)), va_up M.2.1 M.1.1 (fun _ => 0), va_up M.2.2 M.1.1 (fun _ => 0))
section MEM
variable (M : Mem) (a b i j k n sp dp : Nat) (x : Int32) (y : Int64) (r : Option Nat)
theorem mN_stI : mN (stI M a i x) = mN M := rfl
theorem mN_stL : mN (stL M a i y) = mN M := rfl
theorem mN_stR : mN (stR M a i r) = mN M := rfl
theorem mN_cpI : mN (cpI M a b sp dp n) = mN M := rfl
theorem mN_cpL : mN (cpL M a b sp dp n) = mN M := rfl
theorem mN_alc : mN (alc M k n) = mN M + 1 := rfl
theorem mK_stI : mK (stI M a i x) b = mK M b := rfl
theorem mK_stL : mK (stL M a i y) b = mK M b := rfl
theorem mK_stR : mK (stR M a i r) b = mK M b := rfl
theorem mK_cpI : mK (cpI M a b sp dp n) k = mK M k := rfl
theorem mK_cpL : mK (cpL M a b sp dp n) k = mK M k := rfl
theorem mK_alc : mK (alc M k n) b = if b = mN M then k else mK M b := rfl
theorem mG_stI : mG (stI M a i x) b = mG M b := rfl
theorem mG_stL : mG (stL M a i y) b = mG M b := rfl
theorem mG_stR : mG (stR M a i r) b = mG M b := rfl
theorem mG_cpI : mG (cpI M a b sp dp n) k = mG M k := rfl
theorem mG_cpL : mG (cpL M a b sp dp n) k = mG M k := rfl
theorem mG_alc : mG (alc M k n) b = if b = mN M then n else mG M b := rfl
theorem mR_stI : mR (stI M a i x) b j = mR M b j := rfl
theorem mR_stL : mR (stL M a i y) b j = mR M b j := rfl
theorem mR_stR : mR (stR M a i r) b j = if b = a ∧ j = i then r else mR M b j := rfl
theorem mR_cpI : mR (cpI M a b sp dp n) k j = mR M k j := rfl
theorem mR_cpL : mR (cpL M a b sp dp n) k j = mR M k j := rfl
theorem mR_alc : mR (alc M k n) b j = if b = mN M then none else mR M b j := by
  by_cases h : b = M.1.1 <;> simp [mR, alc, mN, va_up, h]
theorem mI_stI : mI (stI M a i x) b j = if b = a ∧ j = i then x else mI M b j := rfl
theorem mI_stL : mI (stL M a i y) b j = mI M b j := rfl
theorem mI_stR : mI (stR M a i r) b j = mI M b j := rfl
theorem mI_cpI : mI (cpI M a b sp dp n) k j = if k = b ∧ dp ≤ j ∧ j < dp + n then mI M a (sp + (j - dp)) else mI M k j := rfl
theorem mI_cpL : mI (cpL M a b sp dp n) k j = mI M k j := rfl
theorem mI_alc : mI (alc M k n) b j = if b = mN M then 0 else mI M b j := by
  by_cases h : b = M.1.1 <;> simp [mI, alc, mN, va_up, h]
theorem mL_stI : mL (stI M a i x) b j = mL M b j := rfl
theorem mL_stL : mL (stL M a i y) b j = if b = a ∧ j = i then y else mL M b j := rfl
theorem mL_stR : mL (stR M a i r) b j = mL M b j := rfl
theorem mL_cpI : mL (cpI M a b sp dp n) k j = mL M k j := rfl
theorem mL_cpL : mL (cpL M a b sp dp n) k j = if k = b ∧ dp ≤ j ∧ j < dp + n then mL M a (sp + (j - dp)) else mL M k j := rfl
theorem mL_alc : mL (alc M k n) b j = if b = mN M then 0 else mL M b j := by
  by_cases h : b = M.1.1 <;> simp [mL, alc, mN, va_up, h]
end MEM
/-! ===== the memory's cells as the kit's entries ===== -/
/-- the fields of each class: true where a field is a reference -/
def fk (c : Nat) : List Bool := match c with
  | 1 => [false, false, false, true]
  | 3 => [true, true, false, true, false, true, true, true, true, true, true]
  | 5 => [false, true, false]
  | 7 => [true, false, false, true, false, false, false]
  | 11 => [true, true, true, true, true, false, true, true, true, true, true, false, true, false, true, true, true, true]
  | 12 => [true, false, true, true, true, true, true, false, false, true, false, false, false, false, false, false, true, true, true, true, true, true, false, true, false, true, true, true, false, true, true, false, true, true, false, true, false, true, true, true, true, true, true, true]
  | _ => []
def fv (ad : Nat → Nat) (M : Mem) (k i : Nat) (r : Bool) : Value := if r = true then va_rf ((mR M k i).map ad) else .int (mI M k i)
def flds (ad : Nat → Nat) (M : Mem) (k : Nat) (bs : List Bool) : List Value := (List.range bs.length).map (fun i => fv ad M k i (bs.getD i false))
def ent (cy : Nat → ClassId) (ad : Nat → Nat) (M : Mem) (k : Nat) : va_E :=
  if mK M k < 13 then .inr (mK M k, flds ad M k (fk (mK M k)))
  else if mK M k = 15 then .inl (cy 15, (mG M k, .inr (.inl (mL M k))))
  else if mK M k = 17 then .inl (cy 17, (mG M k, .inr (.inr (.inr (.inr (fun j => (mR M k j).map ad))))))
  else .inl (cy (mK M k), (mG M k, .inl (mI M k)))
def wl (cy : Nat → ClassId) (ad : Nat → Nat) (M : Mem) : va_W := (List.range (mN M)).map (fun k => (ad k, ent cy ad M k))
def Ad (ad : Nat → Nat) : Nat → Prop := fun q => ∃ k, q = ad k
theorem wl_get {cy : Nat → ClassId} {ad : Nat → Nat} {M : Mem} {k : Nat} (h : k < mN M) : (wl cy ad M)[k]? = some (ad k, ent cy ad M k) := by
  simp [wl, h]
theorem wl_len {cy : Nat → ClassId} {ad : Nat → Nat} {M : Mem} : (wl cy ad M).length = mN M := by simp [wl]
theorem wl_in {cy : Nat → ClassId} {ad : Nat → Nat} {M : Mem} {k : Nat} {q : Nat × va_E} (h : (wl cy ad M)[k]? = some q) : k < mN M ∧ q = (ad k, ent cy ad M k) := by
  have hl : k < mN M := by
    have := (List.getElem?_eq_some_iff.mp h).1
    rwa [wl_len] at this
  rw [wl_get hl] at h
  exact ⟨hl, (Option.some.inj h).symm⟩
theorem wl_D {cy : Nat → ClassId} {ad : Nat → Nat} {M : Mem} (hi : ∀ i j, ad i = ad j → i = j) : va_D (Ad ad) (wl cy ad M) := by
  refine ⟨fun i j p q hp hq e => ?_, fun k q hk => ?_⟩
  · obtain ⟨-, rfl⟩ := wl_in hp
    obtain ⟨-, rfl⟩ := wl_in hq
    exact hi _ _ e
  · obtain ⟨-, rfl⟩ := wl_in hk
    exact ⟨k, rfl⟩
theorem wl_set {cy : Nat → ClassId} {ad : Nat → Nat} {M M' : Mem} {k : Nat} {e : va_E} (hn : mN M' = mN M) (ho : ∀ j, j ≠ k → ent cy ad M' j = ent cy ad M j) (he : ent cy ad M' k = e) : (wl cy ad M).set k (ad k, e) = wl cy ad M' := by
  apply List.ext_getElem?
  intro j
  by_cases hj : j = k
  · subst hj
    by_cases hl : j < mN M
    · rw [List.getElem?_set_self (by rw [wl_len]; exact hl), wl_get (by rw [hn]; exact hl), he]
    · rw [List.getElem?_eq_none (by rw [List.length_set, wl_len]; omega), List.getElem?_eq_none (by rw [wl_len, hn]; omega)]
  · rw [List.getElem?_set_ne (Ne.symm hj)]
    by_cases hl : j < mN M
    · rw [wl_get hl, wl_get (by rw [hn]; exact hl), ho j hj]
    · rw [List.getElem?_eq_none (by rw [wl_len]; omega), List.getElem?_eq_none (by rw [wl_len, hn]; omega)]
theorem wl_push {cy : Nat → ClassId} {ad : Nat → Nat} {M M' : Mem} {e : va_E} (hn : mN M' = mN M + 1) (ho : ∀ j, j < mN M → ent cy ad M' j = ent cy ad M j) (he : ent cy ad M' (mN M) = e) : wl cy ad M ++ [(ad (mN M), e)] = wl cy ad M' := by
  unfold wl
  rw [hn, List.range_succ, List.map_append, List.map_singleton, he]
  congr 1
  apply List.map_congr_left
  intro j hj
  rw [ho j (List.mem_range.mp hj)]
theorem ent_obj {cy : Nat → ClassId} {ad : Nat → Nat} {M : Mem} {k c : Nat} (h : mK M k = c) (hc : c < 13) : ent cy ad M k = .inr (c, flds ad M k (fk c)) := by
  subst h
  simp [ent, hc]
theorem ent_ints {cy : Nat → ClassId} {ad : Nat → Nat} {M : Mem} {k c : Nat} (h : mK M k = c) (hc : c = 13 ∨ c = 14 ∨ c = 16) : ent cy ad M k = .inl (cy c, (mG M k, .inl (mI M k))) := by
  subst h
  unfold ent
  rw [if_neg (by omega), if_neg (by omega), if_neg (by omega)]
theorem ent_longs {cy : Nat → ClassId} {ad : Nat → Nat} {M : Mem} {k : Nat} (h : mK M k = 15) : ent cy ad M k = .inl (cy 15, (mG M k, .inr (.inl (mL M k)))) := by
  unfold ent
  rw [if_neg (by omega), if_pos h]
theorem ent_refs {cy : Nat → ClassId} {ad : Nat → Nat} {M : Mem} {k : Nat} (h : mK M k = 17) : ent cy ad M k = .inl (cy 17, (mG M k, .inr (.inr (.inr (.inr (fun j => (mR M k j).map ad)))))) := by
  unfold ent
  rw [if_neg (by omega), if_neg (by omega), if_pos h]
/-- an entry depends on its own cell alone -/
theorem ent_same {cy : Nat → ClassId} {ad : Nat → Nat} {M M' : Mem} {k : Nat} (h1 : mK M' k = mK M k) (h2 : mG M' k = mG M k) (h3 : ∀ j, mR M' k j = mR M k j) (h4 : ∀ j, mI M' k j = mI M k j) (h5 : ∀ j, mL M' k j = mL M k j) : ent cy ad M' k = ent cy ad M k := by
  have e3 : mR M' k = mR M k := funext h3
  have e4 : mI M' k = mI M k := funext h4
  have e5 : mL M' k = mL M k := funext h5
  have ef : ∀ bs, flds ad M' k bs = flds ad M k bs := fun bs => by
    unfold flds fv
    rw [e3, e4]
  unfold ent
  rw [h1, h2, ef, e4, e5]
  simp only [h3]
theorem flds_at {ad : Nat → Nat} {M : Mem} {k i : Nat} {bs : List Bool} {r : Bool} (h : bs[i]? = some r) : (flds ad M k bs)[i]? = some (fv ad M k i r) := by
  obtain ⟨hl, rfl⟩ := List.getElem?_eq_some_iff.mp h
  simp [flds, hl]
theorem flds_len {ad : Nat → Nat} {M : Mem} {k : Nat} {bs : List Bool} : (flds ad M k bs).length = bs.length := by simp [flds]
theorem flds_set {ad : Nat → Nat} {M M' : Mem} {k i : Nat} {bs : List Bool} {r : Bool} (h : bs[i]? = some r) (ho : ∀ j, j ≠ i → mR M' k j = mR M k j ∧ mI M' k j = mI M k j) : (flds ad M k bs).set i (fv ad M' k i r) = flds ad M' k bs := by
  have hl := (List.getElem?_eq_some_iff.mp h).1
  apply List.ext_getElem?
  intro j
  by_cases hj : j = i
  · subst hj
    rw [List.getElem?_set_self (by rw [flds_len]; exact hl), flds_at h]
  · rw [List.getElem?_set_ne (Ne.symm hj)]
    by_cases hjl : j < bs.length
    · have hb : bs[j]? = some bs[j] := List.getElem?_eq_getElem hjl
      rw [flds_at hb, flds_at hb]
      unfold fv
      rw [(ho j hj).1, (ho j hj).2]
    · rw [List.getElem?_eq_none (by rw [flds_len]; omega), List.getElem?_eq_none (by rw [flds_len]; omega)]
