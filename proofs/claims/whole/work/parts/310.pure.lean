/-! ===== pure facts: the memory ===== -/
section P0
variable (M : Mem) (a b c i j k n sp dp : Nat) (x : Int32) (y : Int64) (r : Option Nat) (F G : Nat → Int32)
theorem isK_stI : isK (stI M a i x) b c = isK M b c := rfl
theorem isK_stL : isK (stL M a i y) b c = isK M b c := rfl
theorem isK_stR : isK (stR M a i r) b c = isK M b c := rfl
theorem isK_cpI : isK (cpI M a j sp dp n) b c = isK M b c := rfl
theorem isK_cpL : isK (cpL M a j sp dp n) b c = isK M b c := rfl
theorem isW_stI : isW (stI M a i x) b = isW M b := rfl
/-- a row of ints put in another's place -/
def wF (M : Mem) (a : Nat) (F : Nat → Int32) : Mem := (M.1, va_up M.2.1 a F, M.2.2)
theorem isK_wF : isK (wF M a F) b c = isK M b c := rfl
theorem isW_wF : isW (wF M a F) b = isW M b := rfl
theorem mN_wF : mN (wF M a F) = mN M := rfl
theorem mK_wF : mK (wF M a F) b = mK M b := rfl
theorem mR_wF : mR (wF M a F) b j = mR M b j := rfl
theorem mG_wF : mG (wF M a F) b = mG M b := rfl
theorem mL_wF : mL (wF M a F) b j = mL M b j := rfl
theorem mI_wF : mI (wF M a F) b j = if b = a then F j else mI M b j := by
  by_cases h : b = a <;> simp [mI, wF, va_up, h]
theorem wF_wF : wF (wF M a F) a G = wF M a G := by
  have : va_up (va_up M.2.1 a F) a G = va_up M.2.1 a G := by
    funext q
    by_cases h : q = a <;> simp [va_up, h]
  simp [wF, this]
theorem stI_row_eq : stI M a i x = wF M a (upd (mI M a) i x) := by
  have : up2 M.2.1 a i x = va_up M.2.1 a (upd (mI M a) i x) := by
    funext q j
    by_cases h : q = a
    · subst h
      by_cases h2 : j = i <;> simp [up2, va_up, upd, h2, mI]
    · simp [up2, va_up, h]
  simp [stI, wF, this]
theorem wF_self : wF M a (mI M a) = M := by
  have : va_up M.2.1 a (mI M a) = M.2.1 := by
    funext q
    by_cases h : q = a
    · subst h
      simp [va_up, mI]
      rfl
    · simp [va_up, h]
  simp [wF, this]
theorem wF_comm (h : a ≠ b) : wF (wF M a F) b G = wF (wF M b G) a F := by
  have : va_up (va_up M.2.1 a F) b G = va_up (va_up M.2.1 b G) a F := by
    funext q
    by_cases h1 : q = a
    · subst h1
      simp [va_up, h]
    · by_cases h2 : q = b
      · subst h2
        simp [va_up, h1]
      · simp [va_up, h1, h2]
  simp [wF, this]
theorem stI_wF : stI (wF M a F) a i x = wF M a (upd F i x) := by
  rw [stI_row_eq, wF_wF]
  congr 1
  have : mI (wF M a F) a = F := by
    funext j
    simp [mI_wF]
  rw [this]
theorem stI_wF_ne (h : b ≠ a) : stI (wF M a F) b i x = wF (stI M b i x) a F := by
  rw [stI_row_eq, stI_row_eq, wF_comm _ _ _ _ _ (Ne.symm h)]
  have : mI (wF M a F) b = mI M b := by
    funext j
    simp [mI_wF, h]
  rw [this]
end P0
/-! ===== small numbers as ints ===== -/
theorem tn {i : Nat} (h : i < 1000000) : (nI i).toNatClampNeg = i := nI_clamp (by omega)
theorem inb_n {i n : Nat} (h : i < n) (hn : n < 1000000) : inb (nI i) n = true := by
  have h1 : ¬ nI i < 0 := nI_pos (by omega)
  simp [inb, h1, tn (show i < 1000000 by omega), h]
theorem leL {a b : Nat} (ha : a < 1000000) (hb : b < 1000000) : (nI a ≤ nI b) = (a ≤ b) := propext (nI_leI (by omega) (by omega))
theorem ltL {a b : Nat} (ha : a < 1000000) (hb : b < 1000000) : (nI a < nI b) = (a < b) := propext (nI_ltI (by omega) (by omega))
theorem eqL {a b : Nat} (ha : a < 1000000) (hb : b < 1000000) : (nI a = nI b) = (a = b) := propext (nI_eq (by omega) (by omega))
theorem lit_n (k : Nat) : (OfNat.ofNat k : Int32) = nI k := rfl
theorem ge25 {i : Nat} (h : i < 25) : ¬ (25 : Int32) ≤ nI i := by
  rw [show (25 : Int32) = nI 25 from rfl, leL (by omega) (by omega)]
  omega
theorem ge25' : (25 : Int32) ≤ nI 25 := by decide
theorem FUs (k : Nat) (h : k < 1000000) : ∃ m, FU = m + k + 1 := ⟨FU - k - 1, by have := FU_ge; omega⟩
/-! ===== a hall as a function: 0 wear, 1 kind, 2 v, 3 cell, 4 away, 5 rows, 6 (hour, people) ===== -/
def hsz (k : Nat) : Nat := match k with
  | 0 => 25
  | 1 => 6
  | 2 => 6
  | 3 => 6
  | 4 => 6
  | 5 => 24
  | 6 => 2
  | _ => 0
abbrev Hall : Type := Nat → Nat → Int32
/-- a hall out of the memory: arrays from b on, hour and people in the object c -/
def hx (M : Mem) (b c hr pe : Nat) : Hall := fun k i => if i < hsz k then (if k = 6 then (if i = 0 then mI M c hr else mI M c pe) else mI M (b + k) i) else 0
abbrev hC (M : Mem) (o : Nat) : Hall := hx M (o + 1) o 2 4
abbrev hM (M : Mem) : Hall := hx M 56 55 7 1
theorem hx_arr {M : Mem} {b c hr pe k i : Nat} (hk : k < 6) (hi : i < hsz k) : hx M b c hr pe k i = mI M (b + k) i := by
  rw [hx, if_pos hi, if_neg (by omega)]
theorem hx_hour {M : Mem} {b c hr pe : Nat} : hx M b c hr pe 6 0 = mI M c hr := rfl
theorem hx_people {M : Mem} {b c hr pe : Nat} : hx M b c hr pe 6 1 = mI M c pe := rfl
/-- a place of a hall put otherwise -/
theorem hx_put {M : Mem} {b c hr pe k i : Nat} {x : Int32} (hk : k < 6) (hi : i < hsz k) (hc : c < b ∨ b + 6 ≤ c) : hx (stI M (b + k) i x) b c hr pe = up2 (hx M b c hr pe) k i x := by
  funext k' i'
  unfold hx up2
  by_cases h6 : k' = 6
  · subst h6
    have h1 : ¬ (6 = k ∧ i' = i) := by omega
    have h2 : c ≠ b + k := by omega
    simp [h1, mI_stI, h2]
  · by_cases hi' : i' < hsz k'
    · by_cases hkk : k' = k
      · subst hkk
        by_cases hii : i' = i
        · subst hii
          simp [hi', h6, mI_stI]
        · simp [hi', h6, mI_stI, hii]
      · have h2 : ¬ b + k' = b + k := by omega
        simp [hi', h6, mI_stI, hkk]
    · have h1 : ¬ (k' = k ∧ i' = i) := by
        rintro ⟨rfl, rfl⟩
        exact hi' hi
      simp [hi', h1]
theorem hx_hr {M : Mem} {b c hr pe : Nat} {x : Int32} (hne : pe ≠ hr) (hc : c < b ∨ b + 6 ≤ c) : hx (stI M c hr x) b c hr pe = up2 (hx M b c hr pe) 6 0 x := by
  funext k' i'
  unfold hx up2
  by_cases h6 : k' = 6
  · subst h6
    by_cases h0 : i' = 0
    · subst h0
      simp [hsz, mI_stI]
    · simp [h0, mI_stI, hne]
  · by_cases hi' : i' < hsz k'
    · have h7 : k' ≤ 6 := by
        apply Classical.byContradiction
        intro hq
        have : hsz k' = 0 := by
          match k', hq with
          | k + 7, _ => rfl
        omega
      have h2 : ¬ b + k' = c := by omega
      simp [hi', h6, mI_stI, h2]
    · simp [hi', h6]
theorem hx_pe {M : Mem} {b c hr pe : Nat} {x : Int32} (hne : hr ≠ pe) (hc : c < b ∨ b + 6 ≤ c) : hx (stI M c pe x) b c hr pe = up2 (hx M b c hr pe) 6 1 x := by
  funext k' i'
  unfold hx up2
  by_cases h6 : k' = 6
  · subst h6
    by_cases h0 : i' = 0
    · subst h0
      simp [hsz, mI_stI, hne]
    · by_cases h1 : i' = 1
      · subst h1
        simp [hsz, mI_stI]
      · have h2 : ¬ i' < hsz 6 := by
          show ¬ i' < 2
          omega
        simp [h2, h1]
  · by_cases hi' : i' < hsz k'
    · have h7 : k' ≤ 6 := by
        apply Classical.byContradiction
        intro hq
        have : hsz k' = 0 := by
          match k', hq with
          | k + 7, _ => rfl
        omega
      have h2 : ¬ b + k' = c := by omega
      simp [hi', h6, mI_stI, h2]
    · simp [hi', h6]
/-- another row is nothing to a hall -/
theorem hx_wF {M : Mem} {b c hr pe a : Nat} {F : Nat → Int32} (h1 : a < b ∨ b + 6 ≤ a) (h2 : a ≠ c) : hx (wF M a F) b c hr pe = hx M b c hr pe := by
  funext k' i'
  unfold hx
  by_cases hi' : i' < hsz k'
  · by_cases h6 : k' = 6
    · simp [hi', h6, mI_wF, Ne.symm h2]
    · have h7 : k' ≤ 6 := by
        apply Classical.byContradiction
        intro hq
        have : hsz k' = 0 := by
          match k', hq with
          | k + 7, _ => rfl
        omega
      have h3 : ¬ b + k' = a := by omega
      simp [hi', h6, mI_wF, h3]
  · simp [hi']
