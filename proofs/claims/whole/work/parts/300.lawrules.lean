/-! ===== the law: its script, its end ===== -/
def Lw (z : Zx) (L : Nat) (xs : Nat → Int32) : Prop := va_X (z.ex 30) L xs z.s z.s.heap ∧ z.ex 30 < z.s.heap.size ∧ ¬ Ad z.ad (z.ex 30)
def LwEnd (z : Zx) : Prop := ∀ {pc : Nat} {lv : List (Option Value)} {M : Mem} {nc ns : Nat}, decode cL_law pc = .ok (.ireturn, 1) → nc ≤ 600000 → ns ≤ 7302250 → V z pc lv [.int 1] M nc ns
section LAWR
variable {z : Zx} {fx : Fx} {al : Bool} {own nm : String} {cc : ByteArray} {rt : Option FieldType} {nL r mc ms : Nat} {rv : Option Value} {N : Mem} {pc : Nat} {lv : List (Option Value)} {st : List Value} {M : Mem} {nc ns : Nat} {L : Nat} {xs : Nat → Int32}
theorem v_slen (hz : Zok z fx al own nm cc rt nL r mc ms rv N) (hX : Lw z L xs) (hd : decode cc pc = .ok (.arraylength, 1)) (kk : V z (pc + 1) lv (.int (Int32.ofNat L) :: st) M nc ns) : V z pc lv (.retAddr 30 :: st) M nc ns := by
  intro H locs ls hw hl
  exact va_slen hz.exec hz.code hX.1 hX.2.1 hX.2.2 hw.2.1 hd (kk H locs ls hw hl)
theorem v_sload (hz : Zok z fx al own nm cc rt nL r mc ms rv N) (hX : Lw z L xs) {i : Int32} (hd : decode cc pc = .ok (.iaload, 1)) (hin : inb i L = true) (kk : V z (pc + 1) lv (.int (xs i.toNatClampNeg) :: st) M nc ns) : V z pc lv (.int i :: .retAddr 30 :: st) M nc ns := by
  intro H locs ls hw hl
  exact va_sld hz.exec hz.code hX.1 hX.2.1 hX.2.2 hw.2.1 (inb_in hin) hd (kk H locs ls hw hl)
end LAWR
