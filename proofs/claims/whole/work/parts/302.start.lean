/-! ===== the start: classes, arrays, what lies outside ===== -/
theorem arrT_of {s : State} {c : ClassId} {k : Class} {comp : ClassId} {ty : FieldType} (h2 : s.vm.classes[c]? = some k) (h3 : k.kind = .array comp ty) : ArrOfT s c ty := fun _ _ => ⟨(fun _ h => by cases h), k, h2, comp, h3⟩
theorem big_tbl {args : Array Value} {s : State} (hts : ∀ w ∈ lw_tbl, w.before args s = true) : ∀ w ∈ BIG, w.before args s = true := fun w h => hts w (List.mem_filter.mp h).1
set_option maxRecDepth 100000 in
set_option maxHeartbeats 4000000 in
theorem K0 {args : Array Value} {s : State} (hts : ∀ w ∈ lw_tbl, w.before args s = true) : ∃ (D : va_G) (cy : Nat → ClassId), va_K D vwCl (tysF cy) s := by
  have hb := big_tbl hts
  obtain ⟨c0, i0, k0⟩ := u_known (C := RX0) (T := TX0) (N := 0) (n := 0) hb (fun w h => by simp [u_ws] at h) (hts (.instantiable RX0 0) (List.mem_of_getElem? (i := 192) (by decide +kernel)))
  obtain ⟨c1, i1, k1⟩ := u_known (C := RX1) (T := TX1) (N := 4) (n := 4) hb inw_1 (hts (.instantiable RX1 4) (List.mem_of_getElem? (i := 130) (by decide +kernel)))
  obtain ⟨c2, i2, k2⟩ := u_known (C := RX2) (T := TX2) (N := 0) (n := 0) hb (fun w h => by simp [u_ws] at h) (hts (.instantiable RX2 0) (List.mem_of_getElem? (i := 185) (by decide +kernel)))
  obtain ⟨c3, i3, k3⟩ := u_known (C := RX3) (T := TX3) (N := 11) (n := 11) hb inw_3 (hts (.instantiable RX3 11) (List.mem_of_getElem? (i := 206) (by decide +kernel)))
  obtain ⟨c4, i4, k4⟩ := u_known (C := RX4) (T := TX4) (N := 0) (n := 0) hb (fun w h => by simp [u_ws] at h) (hts (.instantiable RX4 0) (List.mem_of_getElem? (i := 178) (by decide +kernel)))
  obtain ⟨c5, i5, k5⟩ := u_known (C := RX5) (T := TX5) (N := 3) (n := 3) hb inw_5 (hts (.instantiable RX5 3) (List.mem_of_getElem? (i := 80) (by decide +kernel)))
  obtain ⟨c6, i6, k6⟩ := u_known (C := RX6) (T := TX6) (N := 0) (n := 0) hb (fun w h => by simp [u_ws] at h) (hts (.instantiable RX6 0) (List.mem_of_getElem? (i := 171) (by decide +kernel)))
  obtain ⟨c7, i7, k7⟩ := u_known (C := RX7) (T := TX7) (N := 7) (n := 7) hb inw_7 (hts (.instantiable RX7 7) (List.mem_of_getElem? (i := 98) (by decide +kernel)))
  obtain ⟨c8, i8, k8⟩ := u_known (C := RX8) (T := TX8) (N := 0) (n := 0) hb (fun w h => by simp [u_ws] at h) (hts (.instantiable RX8 0) (List.mem_of_getElem? (i := 199) (by decide +kernel)))
  obtain ⟨c9, i9, k9⟩ := u_known (C := RX9) (T := TX9) (N := 0) (n := 0) hb (fun w h => by simp [u_ws] at h) (hts (.instantiable RX9 0) (List.mem_of_getElem? (i := 164) (by decide +kernel)))
  obtain ⟨c10, i10, k10⟩ := u_known (C := RX10) (T := TX10) (N := 0) (n := 0) hb (fun w h => by simp [u_ws] at h) (hts (.instantiable RX10 0) (List.mem_of_getElem? (i := 156) (by decide +kernel)))
  obtain ⟨c11, i11, k11⟩ := u_known (C := RX11) (T := TX11) (N := 18) (n := 18) hb inw_11 (hts (.instantiable RX11 18) (List.mem_of_getElem? (i := 72) (by decide +kernel)))
  obtain ⟨c12, i12, k12⟩ := u_known (C := RX12) (T := TX12) (N := 44) (n := 44) hb inw_12 (hts (.instantiable RX12 44) (List.mem_of_getElem? (i := 886) (by decide +kernel)))
  obtain ⟨y13, yk13, yc13, ya13, yb13, yd13⟩ := Cond.arrayClass_spec (hts (.arrayClass .byte) (List.mem_of_getElem? (i := 128) (by decide +kernel)))
  obtain ⟨y14, yk14, yc14, ya14, yb14, yd14⟩ := Cond.arrayClass_spec (hts (.arrayClass .int) (List.mem_of_getElem? (i := 96) (by decide +kernel)))
  obtain ⟨y15, yk15, yc15, ya15, yb15, yd15⟩ := Cond.arrayClass_spec (hts (.arrayClass .long) (List.mem_of_getElem? (i := 162) (by decide +kernel)))
  obtain ⟨y16, yk16, yc16, ya16, yb16, yd16⟩ := Cond.arrayClass_spec (hts (.arrayClass .boolean) (List.mem_of_getElem? (i := 259) (by decide +kernel)))
  obtain ⟨wc, y17, yk17, we, -, yb17, yd17, ya17⟩ := Cond.arrayOver_spec (hts (.arrayOver (.object "CarpetsLaw$Walker")) (List.mem_of_getElem? (i := 155) (by decide +kernel)))
  refine ⟨((fun k => if k = 0 then c0 else if k = 1 then c1 else if k = 2 then c2 else if k = 3 then c3 else if k = 4 then c4 else if k = 5 then c5 else if k = 6 then c6 else if k = 7 then c7 else if k = 8 then c8 else if k = 9 then c9 else if k = 10 then c10 else if k = 11 then c11 else c12), (fun k => if k = 0 then i0 else if k = 1 then i1 else if k = 2 then i2 else if k = 3 then i3 else if k = 4 then i4 else if k = 5 then i5 else if k = 6 then i6 else if k = 7 then i7 else if k = 8 then i8 else if k = 9 then i9 else if k = 10 then i10 else if k = 11 then i11 else i12)), (fun k => if k = 13 then y13 else if k = 14 then y14 else if k = 15 then y15 else if k = 16 then y16 else y17), ?_, ?_⟩
  · intro k q hq
    match k, hq with
    | 0, hq => cases hq; exact k0
    | 1, hq => cases hq; exact k1
    | 2, hq => cases hq; exact k2
    | 3, hq => cases hq; exact k3
    | 4, hq => cases hq; exact k4
    | 5, hq => cases hq; exact k5
    | 6, hq => cases hq; exact k6
    | 7, hq => cases hq; exact k7
    | 8, hq => cases hq; exact k8
    | 9, hq => cases hq; exact k9
    | 10, hq => cases hq; exact k10
    | 11, hq => cases hq; exact k11
    | 12, hq => cases hq; exact k12
    | k + 13, hq => simp [vwCl] at hq
  · intro k q hq
    match k, hq with
    | 0, hq => cases hq; exact ⟨arrT_of yb13 yd13, ya13⟩
    | 1, hq => cases hq; exact ⟨arrT_of yb14 yd14, ya14⟩
    | 2, hq => cases hq; exact ⟨arrT_of yb15 yd15, ya15⟩
    | 3, hq => cases hq; exact ⟨arrT_of yb16 yd16, ya16⟩
    | 4, hq => cases hq; exact ⟨arrT_of yb17 yd17, yk17, wc, yb17, yd17, we, ya17⟩
    | k + 5, hq => simp [tysF] at hq
def xTm (i : Nat) : Term := match i with
  | 0 => .string "CarpetsLaw$Statute" 52
  | 1 => .string "CarpetsLaw$Statute" 58
  | 2 => .string "CarpetsLaw$Statute" 78
  | 3 => .string "CarpetsLaw$Statute" 63
  | 4 => .string "CarpetsLaw$Statute" 68
  | 5 => .string "CarpetsLaw$Statute" 88
  | 6 => .string "CarpetsLaw$Statute" 94
  | 7 => .string "CarpetsLaw$Statute" 86
  | 8 => .string "CarpetsLawModel" 198
  | _ => .string "CarpetsLawModel" 200
set_option maxRecDepth 100000 in
theorem xs_1 : ∀ i, i < 10 → Cond.exactly (xTm i) "java/lang/String" ∈ flatC (Jvm.Cond.and given_1 narrow_1) := by decide +kernel
set_option maxRecDepth 100000 in
theorem xs_2 : ∀ i, i < 10 → Cond.eq (.field (xTm i) "java/lang/String" "coder" "B") (.int 0) ∈ flatC (Jvm.Cond.and given_1 narrow_1) := by decide +kernel
set_option maxRecDepth 100000 in
theorem xs_3 : ∀ i, i < 10 → Cond.arrayOf (.field (xTm i) "java/lang/String" "value" "[B") .byte ∈ flatC (Jvm.Cond.and given_1 narrow_1) := by decide +kernel
set_option maxRecDepth 100000 in
theorem xs_4 : ∀ i, i < 10 → Cond.eq (.length (.field (xTm i) "java/lang/String" "value" "[B")) (.int (Int32.ofNat (xLen.getD i 0))) ∈ flatC (Jvm.Cond.and given_1 narrow_1) := by decide +kernel
set_option maxRecDepth 100000 in
theorem xs_5 : ∀ i, i < 10 → ∀ j, j < xLen.getD i 0 → Cond.eq (.elem (.field (xTm i) "java/lang/String" "value" "[B") (.int (Int32.ofNat j))) (.int ((xByt.getD i []).getD j 0)) ∈ flatC (Jvm.Cond.and given_1 narrow_1) := by decide +kernel
set_option maxRecDepth 100000 in
theorem xs_6 : ∀ i, i < 10 → ∀ j, j < 10 → i ≠ j → (Cond.not (Cond.eq (xTm i) (xTm j)) ∈ flatC (Jvm.Cond.and given_1 narrow_1) ∨ Cond.not (Cond.eq (xTm j) (xTm i)) ∈ flatC (Jvm.Cond.and given_1 narrow_1)) := by decide +kernel
set_option maxRecDepth 100000 in
theorem xs_7 : ∀ j, j < 7 → Cond.eq (.elem (.static "CarpetsLaw" "KIND_ABOVE" "[I") (.int (Int32.ofNat j))) (.int (xAbove.getD j 0)) ∈ flatC (Jvm.Cond.and given_1 narrow_1) := by decide +kernel
set_option maxRecDepth 100000 in
theorem xs_8 : ∀ C ∈ xNot, Cond.not (.castable C "CarpetsLaw$Told") ∈ flatC (Jvm.Cond.and given_1 narrow_1) := by decide +kernel
set_option maxRecDepth 100000 in
theorem xs_9 : ∀ q ∈ xNest, Cond.methodLinkNest q.1 q.2.1 q.2.2.1 q.2.2.2 ∈ lw_tbl := by decide +kernel
set_option maxRecDepth 100000 in
theorem xs_10 : ∀ C ∈ xCast, Cond.castable C "CarpetsLaw$Walker" ∈ lw_tbl := by decide +kernel
set_option maxRecDepth 100000 in
theorem xs_11 : ∀ q ∈ xRef, Cond.stringRef q.1 q.2.1 q.2.2.1 ∈ lw_tbl := by decide +kernel
set_option maxRecDepth 100000 in
theorem xs_12 : ∀ q ∈ xRef, (Term.string q.1 q.2.1 = xTm q.2.2.2) ∨ Cond.eq (xTm q.2.2.2) (.string q.1 q.2.1) ∈ flatC (Jvm.Cond.and given_1 narrow_1) := by decide +kernel
set_option maxRecDepth 100000 in
set_option maxHeartbeats 4000000 in
theorem Ext0 {args : Array Value} {s : State} (hts : ∀ w ∈ lw_tbl, w.before args s = true) (hg : (Jvm.Cond.and given_1 narrow_1).before args s = true) {A : Nat → Prop} (hA : ∀ a : Nat, a < s.heap.size → ¬ A a) (b : Nat) : ∃ ex : Nat → Nat, Ext ex A s s.heap ∧ ex 30 = b := by
  have hs := flat_of_before _ hg
  obtain ⟨adK, adV, hS, hT⟩ := vk_Sof (args := args) (s := s) (N := 10) (tm := xTm) (len := xLen) (byt := xByt) (A := A) (by decide) (fun i hi => hs _ (xs_1 i hi)) (fun i hi => hs _ (xs_2 i hi)) (fun i hi => hs _ (xs_3 i hi)) (fun i hi => hs _ (xs_4 i hi)) (fun i hi j hj => hs _ (xs_5 i hi j hj)) (fun i j hi hj hne => (xs_6 i hi j hj hne).elim (fun h => Or.inl (hs _ h)) (fun h => Or.inr (hs _ h))) hA
  obtain ⟨t, ht, hK⟩ := va_Tof (args := args) (s := s) (tm := .static "CarpetsLaw" "KIND_ABOVE" "[I") (ty := .int) (N := 7) (f := fun j => .int (xAbove.getD j 0)) (A := A) (by decide) (hs _ (by decide +kernel)) (va_eqt (hs (.eq (.length (.static "CarpetsLaw" "KIND_ABOVE" "[I")) (.int 7)) (by decide +kernel))) (fun j hj => va_eqt (hs _ (xs_7 j hj))) hA
  have hcs : va_Z "java/lang/String" "COMPACT_STRINGS" "Z" (.int 1) A s s.heap := va_Zof (args := args) (hts _ (List.mem_of_getElem? (i := 462) (by decide +kernel))) (hts _ (List.mem_of_getElem? (i := 64) (by decide +kernel))) (va_eqt (hs (.eq (.static "java/lang/String" "COMPACT_STRINGS" "Z") (.int 1)) (by decide +kernel))) hA
  have hka : va_Z "CarpetsLaw" "KIND_ABOVE" "[I" (.ref t) A s s.heap := va_Zof (args := args) (hts _ (List.mem_of_getElem? (i := 856) (by decide +kernel))) (hts _ (List.mem_of_getElem? (i := 51) (by decide +kernel))) ht hA
  have hsf0 : va_Zq "jdk/internal/util/Preconditions" "SIOOBE_FORMATTER" "Ljava/util/function/BiFunction;" A s s.heap := va_Zqof (args := args) (hts _ (List.mem_of_getElem? (i := 478) (by decide +kernel))) (hts _ (List.mem_of_getElem? (i := 66) (by decide +kernel))) (hs (.isRef (.static "jdk/internal/util/Preconditions" "SIOOBE_FORMATTER" "Ljava/util/function/BiFunction;")) (by decide +kernel)) hA
  obtain ⟨sf, hsf⟩ : ∃ sf, va_Z "jdk/internal/util/Preconditions" "SIOOBE_FORMATTER" "Ljava/util/function/BiFunction;" .null A s s.heap ∨ va_Z "jdk/internal/util/Preconditions" "SIOOBE_FORMATTER" "Ljava/util/function/BiFunction;" (.ref sf) A s s.heap := hsf0.elim (fun h => ⟨0, Or.inl h⟩) (fun ⟨t, h⟩ => ⟨t, Or.inr h⟩)
  refine ⟨fun j => if j < 10 then adK j else if j < 20 then adV (j - 10) else if j = 20 then t else if j = 21 then sf else b, ⟨fun q hq => va_Nw.of rfl (hts _ (xs_9 q hq)), fun C hC => va_Nw.of rfl (hts _ (xs_10 C hC)), fun C hC => va_Nc.of (hs _ (xs_8 C hC)), va_AO.of (hts (.arrayOver (.object "CarpetsLaw$Walker")) (List.mem_of_getElem? (i := 155) (by decide +kernel))), ⟨fun i hi => ?_, fun i j hi hj e => hS.2 i j hi hj (by simpa [hi, hj] using e)⟩, fun q hq => ?_, hcs, by simpa using hka, by simpa using hK, by simpa using hsf⟩, by simp⟩
  · have h1 : ¬ 10 + i < 10 := by omega
    have h2 : 10 + i < 20 := by omega
    have h3 : 10 + i - 10 = i := by omega
    simp only [hi, h1, h2, h3, if_true, if_false]
    exact hS.1 i hi
  · have hj : q.2.2.2 < 10 := (show ∀ q ∈ xRef, q.2.2.2 < 10 by decide +kernel) q hq
    have he : (Term.string q.1 q.2.1).eval args s none [] s = some (.ref (adK q.2.2.2)) := by
      rcases xs_12 q hq with h | h
      · rw [h]
        exact hT _ hj
      · exact va_eqR (hs _ h) (hT _ hj)
    simp only [hj, if_true]
    exact vk_R.of (A := args) (hts _ (xs_11 q hq)) he
