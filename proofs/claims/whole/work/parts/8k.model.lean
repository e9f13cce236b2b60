/-! TurnBenchModel() -/
def sZ : mS := fun _ _ _ => 0
theorem l0 : Int64.ofInt 0 = 0 := by decide
theorem z_long {f : Nat → Int64} (h : ∀ k, f k = 0) (cA : ClassId) (N : Nat) : vp_cell cA (N, .inr (.inl f)) = arrV cA N (fun _ => defaultValue .long) := by
  rw [vp_cell_l]
  congr 1
  funext k
  rw [h k]
  rfl
theorem vm_u {k t : Nat} {q : Nat × Nat} (h : vcM k = q) (ht : offM q.1 q.2 = t) : k = t := by
  have := vcM_inv (k := k)
  rw [h] at this
  exact this.symm.trans ht
theorem opS_noM {op : Nat × Nat → Option va_E} {x : Option va_E} {n n' : Nat} (h : ∀ k, n ≤ k → op (vcM k) = none) (hq : 0 < n') (hn : n ≤ n') : ∀ k, n' ≤ k → opS op (71, 0) x (vcM k) = none := fun k h1 => by
  rw [opS_n (fun z => by have := vm_u (t := 0) z rfl; omega)]
  exact h k (by omega)
theorem ok_sM (D : va_G) (cA : Nat → ClassId) (base : Nat) : mOkS (wM D cA base) sZ := fun q hq k _ => ok_small (by show (0 : Int) ≤ 0 ∧ (0 : Int) < 1000; omega) (fun _ => rfl)
abbrev fsM0 (_base : Nat) : List Value := [.null, .null, .null, .null, .null, .null, .int (Int32.ofInt 0), .int (Int32.ofInt 0), .null, .null, .int (Int32.ofInt 0), .int (Int32.ofInt 0), .null, .null, .int (Int32.ofInt 0), .int (Int32.ofInt 0), .int (Int32.ofInt 0), .int (Int32.ofInt 0), .null, .int (Int32.ofInt 0), .null, .null, .null, .null, .null, .null, .int (Int32.ofInt 0), .int (Int32.ofInt 0), .null, .null, .null, .null, .int (Int32.ofInt 0), .null, .null, .null, .int (Int32.ofInt 0), .null, .null, .null, .int (Int32.ofInt 0), .int (Int32.ofInt 0)]
abbrev fsM1 (base : Nat) : List Value := [.ref (base + 1), .null, .null, .null, .null, .null, .int (Int32.ofInt 0), .int (Int32.ofInt 0), .null, .null, .int (Int32.ofInt 0), .int (Int32.ofInt 0), .null, .null, .int (Int32.ofInt 0), .int (Int32.ofInt 0), .int (Int32.ofInt 0), .int (Int32.ofInt 0), .null, .int (Int32.ofInt 0), .null, .null, .null, .null, .null, .null, .int (Int32.ofInt 0), .int (Int32.ofInt 0), .null, .null, .null, .null, .int (Int32.ofInt 0), .null, .null, .null, .int (Int32.ofInt 0), .null, .null, .null, .int (Int32.ofInt 0), .int (Int32.ofInt 0)]
abbrev fsM2 (base : Nat) : List Value := [.ref (base + 1), .ref (base + 2), .null, .null, .null, .null, .int (Int32.ofInt 0), .int (Int32.ofInt 0), .null, .null, .int (Int32.ofInt 0), .int (Int32.ofInt 0), .null, .null, .int (Int32.ofInt 0), .int (Int32.ofInt 0), .int (Int32.ofInt 0), .int (Int32.ofInt 0), .null, .int (Int32.ofInt 0), .null, .null, .null, .null, .null, .null, .int (Int32.ofInt 0), .int (Int32.ofInt 0), .null, .null, .null, .null, .int (Int32.ofInt 0), .null, .null, .null, .int (Int32.ofInt 0), .null, .null, .null, .int (Int32.ofInt 0), .int (Int32.ofInt 0)]
abbrev fsM3 (base : Nat) : List Value := [.ref (base + 1), .ref (base + 2), .ref (base + 3), .null, .null, .null, .int (Int32.ofInt 0), .int (Int32.ofInt 0), .null, .null, .int (Int32.ofInt 0), .int (Int32.ofInt 0), .null, .null, .int (Int32.ofInt 0), .int (Int32.ofInt 0), .int (Int32.ofInt 0), .int (Int32.ofInt 0), .null, .int (Int32.ofInt 0), .null, .null, .null, .null, .null, .null, .int (Int32.ofInt 0), .int (Int32.ofInt 0), .null, .null, .null, .null, .int (Int32.ofInt 0), .null, .null, .null, .int (Int32.ofInt 0), .null, .null, .null, .int (Int32.ofInt 0), .int (Int32.ofInt 0)]
abbrev fsM4 (base : Nat) : List Value := [.ref (base + 1), .ref (base + 2), .ref (base + 3), .ref (base + 4), .null, .null, .int (Int32.ofInt 0), .int (Int32.ofInt 0), .null, .null, .int (Int32.ofInt 0), .int (Int32.ofInt 0), .null, .null, .int (Int32.ofInt 0), .int (Int32.ofInt 0), .int (Int32.ofInt 0), .int (Int32.ofInt 0), .null, .int (Int32.ofInt 0), .null, .null, .null, .null, .null, .null, .int (Int32.ofInt 0), .int (Int32.ofInt 0), .null, .null, .null, .null, .int (Int32.ofInt 0), .null, .null, .null, .int (Int32.ofInt 0), .null, .null, .null, .int (Int32.ofInt 0), .int (Int32.ofInt 0)]
abbrev fsM5 (base : Nat) : List Value := [.ref (base + 1), .ref (base + 2), .ref (base + 3), .ref (base + 4), .ref (base + 5), .null, .int (Int32.ofInt 0), .int (Int32.ofInt 0), .null, .null, .int (Int32.ofInt 0), .int (Int32.ofInt 0), .null, .null, .int (Int32.ofInt 0), .int (Int32.ofInt 0), .int (Int32.ofInt 0), .int (Int32.ofInt 0), .null, .int (Int32.ofInt 0), .null, .null, .null, .null, .null, .null, .int (Int32.ofInt 0), .int (Int32.ofInt 0), .null, .null, .null, .null, .int (Int32.ofInt 0), .null, .null, .null, .int (Int32.ofInt 0), .null, .null, .null, .int (Int32.ofInt 0), .int (Int32.ofInt 0)]
abbrev fsM6 (base : Nat) : List Value := [.ref (base + 1), .ref (base + 2), .ref (base + 3), .ref (base + 4), .ref (base + 5), .ref (base + 6), .int (Int32.ofInt 0), .int (Int32.ofInt 0), .null, .null, .int (Int32.ofInt 0), .int (Int32.ofInt 0), .null, .null, .int (Int32.ofInt 0), .int (Int32.ofInt 0), .int (Int32.ofInt 0), .int (Int32.ofInt 0), .null, .int (Int32.ofInt 0), .null, .null, .null, .null, .null, .null, .int (Int32.ofInt 0), .int (Int32.ofInt 0), .null, .null, .null, .null, .int (Int32.ofInt 0), .null, .null, .null, .int (Int32.ofInt 0), .null, .null, .null, .int (Int32.ofInt 0), .int (Int32.ofInt 0)]
abbrev fsM7 (base : Nat) : List Value := [.ref (base + 1), .ref (base + 2), .ref (base + 3), .ref (base + 4), .ref (base + 5), .ref (base + 6), .int (Int32.ofInt 0), .int (Int32.ofInt 0), .ref (base + 7), .null, .int (Int32.ofInt 0), .int (Int32.ofInt 0), .null, .null, .int (Int32.ofInt 0), .int (Int32.ofInt 0), .int (Int32.ofInt 0), .int (Int32.ofInt 0), .null, .int (Int32.ofInt 0), .null, .null, .null, .null, .null, .null, .int (Int32.ofInt 0), .int (Int32.ofInt 0), .null, .null, .null, .null, .int (Int32.ofInt 0), .null, .null, .null, .int (Int32.ofInt 0), .null, .null, .null, .int (Int32.ofInt 0), .int (Int32.ofInt 0)]
abbrev fsM8 (base : Nat) : List Value := [.ref (base + 1), .ref (base + 2), .ref (base + 3), .ref (base + 4), .ref (base + 5), .ref (base + 6), .int (Int32.ofInt 0), .int (Int32.ofInt 0), .ref (base + 7), .ref (base + 8), .int (Int32.ofInt 0), .int (Int32.ofInt 0), .null, .null, .int (Int32.ofInt 0), .int (Int32.ofInt 0), .int (Int32.ofInt 0), .int (Int32.ofInt 0), .null, .int (Int32.ofInt 0), .null, .null, .null, .null, .null, .null, .int (Int32.ofInt 0), .int (Int32.ofInt 0), .null, .null, .null, .null, .int (Int32.ofInt 0), .null, .null, .null, .int (Int32.ofInt 0), .null, .null, .null, .int (Int32.ofInt 0), .int (Int32.ofInt 0)]
abbrev fsM9 (base : Nat) : List Value := [.ref (base + 1), .ref (base + 2), .ref (base + 3), .ref (base + 4), .ref (base + 5), .ref (base + 6), .int (Int32.ofInt 0), .int (Int32.ofInt 0), .ref (base + 7), .ref (base + 8), .int (Int32.ofInt 0), .int (Int32.ofInt 0), .ref (base + 9), .null, .int (Int32.ofInt 0), .int (Int32.ofInt 0), .int (Int32.ofInt 0), .int (Int32.ofInt 0), .null, .int (Int32.ofInt 0), .null, .null, .null, .null, .null, .null, .int (Int32.ofInt 0), .int (Int32.ofInt 0), .null, .null, .null, .null, .int (Int32.ofInt 0), .null, .null, .null, .int (Int32.ofInt 0), .null, .null, .null, .int (Int32.ofInt 0), .int (Int32.ofInt 0)]
abbrev fsM10 (base : Nat) : List Value := [.ref (base + 1), .ref (base + 2), .ref (base + 3), .ref (base + 4), .ref (base + 5), .ref (base + 6), .int (Int32.ofInt 0), .int (Int32.ofInt 0), .ref (base + 7), .ref (base + 8), .int (Int32.ofInt 0), .int (Int32.ofInt 0), .ref (base + 9), .ref (base + 10), .int (Int32.ofInt 0), .int (Int32.ofInt 0), .int (Int32.ofInt 0), .int (Int32.ofInt 0), .null, .int (Int32.ofInt 0), .null, .null, .null, .null, .null, .null, .int (Int32.ofInt 0), .int (Int32.ofInt 0), .null, .null, .null, .null, .int (Int32.ofInt 0), .null, .null, .null, .int (Int32.ofInt 0), .null, .null, .null, .int (Int32.ofInt 0), .int (Int32.ofInt 0)]
abbrev fsM11 (base : Nat) : List Value := [.ref (base + 1), .ref (base + 2), .ref (base + 3), .ref (base + 4), .ref (base + 5), .ref (base + 6), .int (Int32.ofInt 0), .int (Int32.ofInt 0), .ref (base + 7), .ref (base + 8), .int (Int32.ofInt 0), .int (Int32.ofInt 0), .ref (base + 9), .ref (base + 10), .int (Int32.ofInt 0), .int (Int32.ofInt 0), .int (Int32.ofInt 0), .int (Int32.ofInt 0), .ref (base + 11), .int (Int32.ofInt 0), .null, .null, .null, .null, .null, .null, .int (Int32.ofInt 0), .int (Int32.ofInt 0), .null, .null, .null, .null, .int (Int32.ofInt 0), .null, .null, .null, .int (Int32.ofInt 0), .null, .null, .null, .int (Int32.ofInt 0), .int (Int32.ofInt 0)]
abbrev fsM12 (base : Nat) : List Value := [.ref (base + 1), .ref (base + 2), .ref (base + 3), .ref (base + 4), .ref (base + 5), .ref (base + 6), .int (Int32.ofInt 0), .int (Int32.ofInt 0), .ref (base + 7), .ref (base + 8), .int (Int32.ofInt 0), .int (Int32.ofInt 0), .ref (base + 9), .ref (base + 10), .int (Int32.ofInt 0), .int (Int32.ofInt 0), .int (Int32.ofInt 0), .int (Int32.ofInt 0), .ref (base + 11), .int (Int32.ofInt 0), .ref (base + 12), .null, .null, .null, .null, .null, .int (Int32.ofInt 0), .int (Int32.ofInt 0), .null, .null, .null, .null, .int (Int32.ofInt 0), .null, .null, .null, .int (Int32.ofInt 0), .null, .null, .null, .int (Int32.ofInt 0), .int (Int32.ofInt 0)]
abbrev fsM13 (base : Nat) : List Value := [.ref (base + 1), .ref (base + 2), .ref (base + 3), .ref (base + 4), .ref (base + 5), .ref (base + 6), .int (Int32.ofInt 0), .int (Int32.ofInt 0), .ref (base + 7), .ref (base + 8), .int (Int32.ofInt 0), .int (Int32.ofInt 0), .ref (base + 9), .ref (base + 10), .int (Int32.ofInt 0), .int (Int32.ofInt 0), .int (Int32.ofInt 0), .int (Int32.ofInt 0), .ref (base + 11), .int (Int32.ofInt 0), .ref (base + 12), .ref (base + 13), .null, .null, .null, .null, .int (Int32.ofInt 0), .int (Int32.ofInt 0), .null, .null, .null, .null, .int (Int32.ofInt 0), .null, .null, .null, .int (Int32.ofInt 0), .null, .null, .null, .int (Int32.ofInt 0), .int (Int32.ofInt 0)]
abbrev fsM14 (base : Nat) : List Value := [.ref (base + 1), .ref (base + 2), .ref (base + 3), .ref (base + 4), .ref (base + 5), .ref (base + 6), .int (Int32.ofInt 0), .int (Int32.ofInt 0), .ref (base + 7), .ref (base + 8), .int (Int32.ofInt 0), .int (Int32.ofInt 0), .ref (base + 9), .ref (base + 10), .int (Int32.ofInt 0), .int (Int32.ofInt 0), .int (Int32.ofInt 0), .int (Int32.ofInt 0), .ref (base + 11), .int (Int32.ofInt 0), .ref (base + 12), .ref (base + 13), .ref (base + 14), .null, .null, .null, .int (Int32.ofInt 0), .int (Int32.ofInt 0), .null, .null, .null, .null, .int (Int32.ofInt 0), .null, .null, .null, .int (Int32.ofInt 0), .null, .null, .null, .int (Int32.ofInt 0), .int (Int32.ofInt 0)]
abbrev fsM15 (base : Nat) : List Value := [.ref (base + 1), .ref (base + 2), .ref (base + 3), .ref (base + 4), .ref (base + 5), .ref (base + 6), .int (Int32.ofInt 0), .int (Int32.ofInt 0), .ref (base + 7), .ref (base + 8), .int (Int32.ofInt 0), .int (Int32.ofInt 0), .ref (base + 9), .ref (base + 10), .int (Int32.ofInt 0), .int (Int32.ofInt 0), .int (Int32.ofInt 0), .int (Int32.ofInt 0), .ref (base + 11), .int (Int32.ofInt 0), .ref (base + 12), .ref (base + 13), .ref (base + 14), .ref (base + 15), .null, .null, .int (Int32.ofInt 0), .int (Int32.ofInt 0), .null, .null, .null, .null, .int (Int32.ofInt 0), .null, .null, .null, .int (Int32.ofInt 0), .null, .null, .null, .int (Int32.ofInt 0), .int (Int32.ofInt 0)]
abbrev fsM16 (base : Nat) : List Value := [.ref (base + 1), .ref (base + 2), .ref (base + 3), .ref (base + 4), .ref (base + 5), .ref (base + 6), .int (Int32.ofInt 0), .int (Int32.ofInt 0), .ref (base + 7), .ref (base + 8), .int (Int32.ofInt 0), .int (Int32.ofInt 0), .ref (base + 9), .ref (base + 10), .int (Int32.ofInt 0), .int (Int32.ofInt 0), .int (Int32.ofInt 0), .int (Int32.ofInt 0), .ref (base + 11), .int (Int32.ofInt 0), .ref (base + 12), .ref (base + 13), .ref (base + 14), .ref (base + 15), .ref (base + 16), .null, .int (Int32.ofInt 0), .int (Int32.ofInt 0), .null, .null, .null, .null, .int (Int32.ofInt 0), .null, .null, .null, .int (Int32.ofInt 0), .null, .null, .null, .int (Int32.ofInt 0), .int (Int32.ofInt 0)]
abbrev fsM17 (base : Nat) : List Value := [.ref (base + 1), .ref (base + 2), .ref (base + 3), .ref (base + 4), .ref (base + 5), .ref (base + 6), .int (Int32.ofInt 0), .int (Int32.ofInt 0), .ref (base + 7), .ref (base + 8), .int (Int32.ofInt 0), .int (Int32.ofInt 0), .ref (base + 9), .ref (base + 10), .int (Int32.ofInt 0), .int (Int32.ofInt 0), .int (Int32.ofInt 0), .int (Int32.ofInt 0), .ref (base + 11), .int (Int32.ofInt 0), .ref (base + 12), .ref (base + 13), .ref (base + 14), .ref (base + 15), .ref (base + 16), .ref (base + 17), .int (Int32.ofInt 0), .int (Int32.ofInt 0), .null, .null, .null, .null, .int (Int32.ofInt 0), .null, .null, .null, .int (Int32.ofInt 0), .null, .null, .null, .int (Int32.ofInt 0), .int (Int32.ofInt 0)]
abbrev fsM18 (base : Nat) : List Value := [.ref (base + 1), .ref (base + 2), .ref (base + 3), .ref (base + 4), .ref (base + 5), .ref (base + 6), .int (Int32.ofInt 0), .int (Int32.ofInt 0), .ref (base + 7), .ref (base + 8), .int (Int32.ofInt 0), .int (Int32.ofInt 0), .ref (base + 9), .ref (base + 10), .int (Int32.ofInt 0), .int (Int32.ofInt 0), .int (Int32.ofInt 0), .int (Int32.ofInt 0), .ref (base + 11), .int (Int32.ofInt 0), .ref (base + 12), .ref (base + 13), .ref (base + 14), .ref (base + 15), .ref (base + 16), .ref (base + 17), .int (Int32.ofInt 0), .int (Int32.ofInt 0), .ref (base + 18), .null, .null, .null, .int (Int32.ofInt 0), .null, .null, .null, .int (Int32.ofInt 0), .null, .null, .null, .int (Int32.ofInt 0), .int (Int32.ofInt 0)]
abbrev fsM19 (base : Nat) : List Value := [.ref (base + 1), .ref (base + 2), .ref (base + 3), .ref (base + 4), .ref (base + 5), .ref (base + 6), .int (Int32.ofInt 0), .int (Int32.ofInt 0), .ref (base + 7), .ref (base + 8), .int (Int32.ofInt 0), .int (Int32.ofInt 0), .ref (base + 9), .ref (base + 10), .int (Int32.ofInt 0), .int (Int32.ofInt 0), .int (Int32.ofInt 0), .int (Int32.ofInt 0), .ref (base + 11), .int (Int32.ofInt 0), .ref (base + 12), .ref (base + 13), .ref (base + 14), .ref (base + 15), .ref (base + 16), .ref (base + 17), .int (Int32.ofInt 0), .int (Int32.ofInt 0), .ref (base + 18), .ref (base + 19), .null, .null, .int (Int32.ofInt 0), .null, .null, .null, .int (Int32.ofInt 0), .null, .null, .null, .int (Int32.ofInt 0), .int (Int32.ofInt 0)]
abbrev fsM20 (base : Nat) : List Value := [.ref (base + 1), .ref (base + 2), .ref (base + 3), .ref (base + 4), .ref (base + 5), .ref (base + 6), .int (Int32.ofInt 0), .int (Int32.ofInt 0), .ref (base + 7), .ref (base + 8), .int (Int32.ofInt 0), .int (Int32.ofInt 0), .ref (base + 9), .ref (base + 10), .int (Int32.ofInt 0), .int (Int32.ofInt 0), .int (Int32.ofInt 0), .int (Int32.ofInt 0), .ref (base + 11), .int (Int32.ofInt 0), .ref (base + 12), .ref (base + 13), .ref (base + 14), .ref (base + 15), .ref (base + 16), .ref (base + 17), .int (Int32.ofInt 0), .int (Int32.ofInt 0), .ref (base + 18), .ref (base + 19), .ref (base + 20), .null, .int (Int32.ofInt 0), .null, .null, .null, .int (Int32.ofInt 0), .null, .null, .null, .int (Int32.ofInt 0), .int (Int32.ofInt 0)]
abbrev fsM21 (base : Nat) : List Value := [.ref (base + 1), .ref (base + 2), .ref (base + 3), .ref (base + 4), .ref (base + 5), .ref (base + 6), .int (Int32.ofInt 0), .int (Int32.ofInt 0), .ref (base + 7), .ref (base + 8), .int (Int32.ofInt 0), .int (Int32.ofInt 0), .ref (base + 9), .ref (base + 10), .int (Int32.ofInt 0), .int (Int32.ofInt 0), .int (Int32.ofInt 0), .int (Int32.ofInt 0), .ref (base + 11), .int (Int32.ofInt 0), .ref (base + 12), .ref (base + 13), .ref (base + 14), .ref (base + 15), .ref (base + 16), .ref (base + 17), .int (Int32.ofInt 0), .int (Int32.ofInt 0), .ref (base + 18), .ref (base + 19), .ref (base + 20), .ref (base + 21), .int (Int32.ofInt 0), .null, .null, .null, .int (Int32.ofInt 0), .null, .null, .null, .int (Int32.ofInt 0), .int (Int32.ofInt 0)]
abbrev fsM22 (base : Nat) : List Value := [.ref (base + 1), .ref (base + 2), .ref (base + 3), .ref (base + 4), .ref (base + 5), .ref (base + 6), .int (Int32.ofInt 0), .int (Int32.ofInt 0), .ref (base + 7), .ref (base + 8), .int (Int32.ofInt 0), .int (Int32.ofInt 0), .ref (base + 9), .ref (base + 10), .int (Int32.ofInt 0), .int (Int32.ofInt 0), .int (Int32.ofInt 0), .int (Int32.ofInt 0), .ref (base + 11), .int (Int32.ofInt 0), .ref (base + 12), .ref (base + 13), .ref (base + 14), .ref (base + 15), .ref (base + 16), .ref (base + 17), .int (Int32.ofInt 0), .int (Int32.ofInt 0), .ref (base + 18), .ref (base + 19), .ref (base + 20), .ref (base + 21), .int (Int32.ofInt 0), .ref (base + 22), .null, .null, .int (Int32.ofInt 0), .null, .null, .null, .int (Int32.ofInt 0), .int (Int32.ofInt 0)]
abbrev fsM23 (base : Nat) : List Value := [.ref (base + 1), .ref (base + 2), .ref (base + 3), .ref (base + 4), .ref (base + 5), .ref (base + 6), .int (Int32.ofInt 0), .int (Int32.ofInt 0), .ref (base + 7), .ref (base + 8), .int (Int32.ofInt 0), .int (Int32.ofInt 0), .ref (base + 9), .ref (base + 10), .int (Int32.ofInt 0), .int (Int32.ofInt 0), .int (Int32.ofInt 0), .int (Int32.ofInt 0), .ref (base + 11), .int (Int32.ofInt 0), .ref (base + 12), .ref (base + 13), .ref (base + 14), .ref (base + 15), .ref (base + 16), .ref (base + 17), .int (Int32.ofInt 0), .int (Int32.ofInt 0), .ref (base + 18), .ref (base + 19), .ref (base + 20), .ref (base + 21), .int (Int32.ofInt 0), .ref (base + 22), .ref (base + 23), .null, .int (Int32.ofInt 0), .null, .null, .null, .int (Int32.ofInt 0), .int (Int32.ofInt 0)]
abbrev fsM24 (base : Nat) : List Value := [.ref (base + 1), .ref (base + 2), .ref (base + 3), .ref (base + 4), .ref (base + 5), .ref (base + 6), .int (Int32.ofInt 0), .int (Int32.ofInt 0), .ref (base + 7), .ref (base + 8), .int (Int32.ofInt 0), .int (Int32.ofInt 0), .ref (base + 9), .ref (base + 10), .int (Int32.ofInt 0), .int (Int32.ofInt 0), .int (Int32.ofInt 0), .int (Int32.ofInt 0), .ref (base + 11), .int (Int32.ofInt 0), .ref (base + 12), .ref (base + 13), .ref (base + 14), .ref (base + 15), .ref (base + 16), .ref (base + 17), .int (Int32.ofInt 0), .int (Int32.ofInt 0), .ref (base + 18), .ref (base + 19), .ref (base + 20), .ref (base + 21), .int (Int32.ofInt 0), .ref (base + 22), .ref (base + 23), .ref (base + 24), .int (Int32.ofInt 0), .null, .null, .null, .int (Int32.ofInt 0), .int (Int32.ofInt 0)]
abbrev fsM25 (base : Nat) : List Value := [.ref (base + 1), .ref (base + 2), .ref (base + 3), .ref (base + 4), .ref (base + 5), .ref (base + 6), .int (Int32.ofInt 0), .int (Int32.ofInt 0), .ref (base + 7), .ref (base + 8), .int (Int32.ofInt 0), .int (Int32.ofInt 0), .ref (base + 9), .ref (base + 10), .int (Int32.ofInt 0), .int (Int32.ofInt 0), .int (Int32.ofInt 0), .int (Int32.ofInt 0), .ref (base + 11), .int (Int32.ofInt 0), .ref (base + 12), .ref (base + 13), .ref (base + 14), .ref (base + 15), .ref (base + 16), .ref (base + 17), .int (Int32.ofInt 0), .int (Int32.ofInt 0), .ref (base + 18), .ref (base + 19), .ref (base + 20), .ref (base + 21), .int (Int32.ofInt 0), .ref (base + 22), .ref (base + 23), .ref (base + 24), .int (Int32.ofInt 0), .ref (base + 25), .null, .null, .int (Int32.ofInt 0), .int (Int32.ofInt 0)]
abbrev fsM26 (base : Nat) : List Value := [.ref (base + 1), .ref (base + 2), .ref (base + 3), .ref (base + 4), .ref (base + 5), .ref (base + 6), .int (Int32.ofInt 0), .int (Int32.ofInt 0), .ref (base + 7), .ref (base + 8), .int (Int32.ofInt 0), .int (Int32.ofInt 0), .ref (base + 9), .ref (base + 10), .int (Int32.ofInt 0), .int (Int32.ofInt 0), .int (Int32.ofInt 0), .int (Int32.ofInt 0), .ref (base + 11), .int (Int32.ofInt 0), .ref (base + 12), .ref (base + 13), .ref (base + 14), .ref (base + 15), .ref (base + 16), .ref (base + 17), .int (Int32.ofInt 0), .int (Int32.ofInt 0), .ref (base + 18), .ref (base + 19), .ref (base + 20), .ref (base + 21), .int (Int32.ofInt 0), .ref (base + 22), .ref (base + 23), .ref (base + 24), .int (Int32.ofInt 0), .ref (base + 25), .ref (base + 26), .null, .int (Int32.ofInt 0), .int (Int32.ofInt 0)]
abbrev fsM27 (base : Nat) : List Value := [.ref (base + 1), .ref (base + 2), .ref (base + 3), .ref (base + 4), .ref (base + 5), .ref (base + 6), .int (Int32.ofInt 0), .int (Int32.ofInt 0), .ref (base + 7), .ref (base + 8), .int (Int32.ofInt 0), .int (Int32.ofInt 0), .ref (base + 9), .ref (base + 10), .int (Int32.ofInt 0), .int (Int32.ofInt 0), .int (Int32.ofInt 0), .int (Int32.ofInt 0), .ref (base + 11), .int (Int32.ofInt 0), .ref (base + 12), .ref (base + 13), .ref (base + 14), .ref (base + 15), .ref (base + 16), .ref (base + 17), .int (Int32.ofInt 0), .int (Int32.ofInt 0), .ref (base + 18), .ref (base + 19), .ref (base + 20), .ref (base + 21), .int (Int32.ofInt 0), .ref (base + 22), .ref (base + 23), .ref (base + 24), .int (Int32.ofInt 0), .ref (base + 25), .ref (base + 26), .ref (base + 27), .int (Int32.ofInt 0), .int (Int32.ofInt 0)]
/-- the store behind the constructor's own numbers -/
noncomputable def sN : mS := mup (mup (mup (mup sZ 71 0 6 1) 74 0 0 (mw (0 + 1))) 74 0 1 (mw (mw (0 + 1) + 1))) 74 0 2 (mw (mw (mw (0 + 1) + 1) + 1))
theorem x12_tail {p : Program} {l : Launch} {e : Env} {R : Room} {s : State} {m : MethodId} {args : Array Value} {below : List Frame} {meth : Method} {c : Code} {H : Heap} {locs : List Loc} {cells slots mc ms : Nat} {ls : Array Slot} {D : va_G} {cA : Nat → ClassId} {base N : Nat} {σ' : mS} (hx : p.tables.exec = Jvm.exec) (hb : c.code = cX12_init) (hml : c.maxLocals = 2) (hown : s.vm.findClass RX12 = some m.cls) (hts : ∀ x ∈ lw_kept, x.before args s = true) (hK : mK (wM D cA base) s) (hr : meth.sig.returnType = none) (hlocks : meth.locks = false) (hR : mRep (wM D cA base) sZ H) (hS : va_S (fbA base) s.heap H locs) (hl : lv_has ls 2 (lv_args 0 [.ref (base + 0)])) (hmk : f_X12_finds N sN = some σ') (hRm : 15 ≤ R.frames ∧ 600 ≤ R.locals) (hcl : cells ≤ R.cells ∧ slots ≤ R.slots) (h1 : cells = mc := by rfl) (h2 : slots = ms := by rfl) : W p l e R s m args below meth c H locs cells slots (MQ below (jQ (wM D cA base) σ' (fbA base)) args s mc ms (fbA base)) (F0 m 230 ls []) := by
  subst h1; subst h2
  have C0 : mCx (p, l, e, R, s, m, args, below, meth, c, cells, slots, MQ below (jQ (wM D cA base) σ' (fbA base)) args s cells slots (fbA base)) (wM D cA base) sc0 cX12_init 2 RX12 lw_kept := ⟨hx, hb, hml, hown, hts, hK, geoM D cA base, fun h => h.elim⟩
  have key : mWW (p, l, e, R, s, m, args, below, meth, c, cells, slots, MQ below (jQ (wM D cA base) σ' (fbA base)) args s cells slots (fbA base)) (wM D cA base) sc0 2 (230, [some (.inr (.inr (71, 0))), none], [], sZ) := by
    refine m_blk C0 (pX12_ok rfl) kX12_init_ok 110 7 (239, [some (.inr (.inr (71, 0))), some (.inl 0)], [.inl 3, .inl 0], mup sZ 71 0 6 1) (Ps := []) rfl trivial ?_
    refine b_ige (tgt := 257) C0 kX12_init_ok 117 rfl rfl (fun h => absurd h (by decide)) (fun _ => ?_)
    refine m_blk C0 (pX12_ok rfl) kX12_init_ok 118 9 (237, [some (.inr (.inr (71, 0))), some (.inl (mw (0 + 1)))], [], mup (mup sZ 71 0 6 1) 74 0 0 (mw (0 + 1))) (Ps := [0 ≤ (0 : Int) ∧ (0 : Int) < 144]) rfl (And.intro (by decide) trivial) ?_
    refine m_blk C0 (pX12_ok rfl) kX12_init_ok 115 2 (239, [some (.inr (.inr (71, 0))), some (.inl (mw (0 + 1)))], [.inl 3, .inl (mw (0 + 1))], mup (mup sZ 71 0 6 1) 74 0 0 (mw (0 + 1))) (Ps := []) rfl trivial ?_
    refine b_ige (tgt := 257) C0 kX12_init_ok 117 rfl rfl (fun h => absurd h (by decide)) (fun _ => ?_)
    refine m_blk C0 (pX12_ok rfl) kX12_init_ok 118 9 (237, [some (.inr (.inr (71, 0))), some (.inl (mw (mw (0 + 1) + 1)))], [], mup (mup (mup sZ 71 0 6 1) 74 0 0 (mw (0 + 1))) 74 0 (mw (0 + 1)).toNat (mw (mw (0 + 1) + 1))) (Ps := [0 ≤ mw (0 + 1) ∧ mw (0 + 1) < 144]) rfl (And.intro (by decide) trivial) ?_
    refine m_blk C0 (pX12_ok rfl) kX12_init_ok 115 2 (239, [some (.inr (.inr (71, 0))), some (.inl (mw (mw (0 + 1) + 1)))], [.inl 3, .inl (mw (mw (0 + 1) + 1))], mup (mup (mup sZ 71 0 6 1) 74 0 0 (mw (0 + 1))) 74 0 (mw (0 + 1)).toNat (mw (mw (0 + 1) + 1))) (Ps := []) rfl trivial ?_
    refine b_ige (tgt := 257) C0 kX12_init_ok 117 rfl rfl (fun h => absurd h (by decide)) (fun _ => ?_)
    refine m_blk C0 (pX12_ok rfl) kX12_init_ok 118 9 (237, [some (.inr (.inr (71, 0))), some (.inl (mw (mw (mw (0 + 1) + 1) + 1)))], [], mup (mup (mup (mup sZ 71 0 6 1) 74 0 0 (mw (0 + 1))) 74 0 (mw (0 + 1)).toNat (mw (mw (0 + 1) + 1))) 74 0 (mw (mw (0 + 1) + 1)).toNat (mw (mw (mw (0 + 1) + 1) + 1))) (Ps := [0 ≤ mw (mw (0 + 1) + 1) ∧ mw (mw (0 + 1) + 1) < 144]) rfl (And.intro (by decide) trivial) ?_
    refine m_blk C0 (pX12_ok rfl) kX12_init_ok 115 2 (239, [some (.inr (.inr (71, 0))), some (.inl (mw (mw (mw (0 + 1) + 1) + 1)))], [.inl 3, .inl (mw (mw (mw (0 + 1) + 1) + 1))], mup (mup (mup (mup sZ 71 0 6 1) 74 0 0 (mw (0 + 1))) 74 0 (mw (0 + 1)).toNat (mw (mw (0 + 1) + 1))) 74 0 (mw (mw (0 + 1) + 1)).toNat (mw (mw (mw (0 + 1) + 1) + 1))) (Ps := []) rfl trivial ?_
    refine b_ige (tgt := 257) C0 kX12_init_ok 117 rfl rfl (fun _ => ?_) (fun h => absurd (by decide) h)
    rw [show (mw (0 + 1)).toNat = 1 from by decide, show (mw (mw (0 + 1) + 1)).toNat = 2 from by decide]
    refine m_blk C0 (pX12_ok rfl) kX12_init_ok 127 1 (258, [some (.inr (.inr (71, 0))), some (.inl (mw (mw (mw (0 + 1) + 1) + 1)))], [.inr (.inr (71, 0))], sN) (Ps := []) rfl trivial ?_
    refine m_callV (rest := []) C0 lk_X12_97.1 (71, 0) [] (t_X12_finds (geoM D cA base) l N hmk) lk_X12_97.2.1 lk_X12_97.2.2 (k_at kX12_init_ok 128 rfl) rfl rfl rfl rfl ⟨_, _, rfl⟩ ⟨hRm.1, by have := hRm.2; show 8 + (3 + 11) + 40 * 14 ≤ R.locals; omega⟩ hcl (Nat.zero_le _) mNext_0 ?_
    intro H1 locs1 L1 g1 g2 g3 g4 g5
    exact W.vret hx hb hr (fun t ht hW => ⟨⟨(), rfl, trivial, by show mRep _ _ t.heap; rw [ht]; exact g1⟩, g3.F ht⟩) g3.2.2 (k_at kX12_init_ok 129 rfl) hlocks
  refine key H locs ls hR (fun h => h.elim) hS ⟨hl.1, hl.2.1, rfl, fun i v hv => ?_⟩ (fun v hv => by cases hv)
  have hi : i = 0 ∨ i = 1 := by
    have := (List.getElem?_eq_some_iff.mp hv).1
    have h1 : i < 2 := this
    omega
  rcases hi with rfl | rfl
  · cases hv
    exact ⟨lv_at hl 0 rfl, Or.inl (inVM.mpr ⟨0, by decide, rfl⟩)⟩
  · cases hv
set_option maxRecDepth 20000 in
theorem i_X12 (l : Launch) {D : va_G} {cA : Nat → ClassId} {base zq : Nat} {op : Nat × Nat → Option va_E} (hop : op (71, 0) = some (.inr (12, fsM0 base))) (hno : ∀ k, 1 ≤ k → op (vcM k) = none) {N : Nat} {σ' : mS} (hmk : f_X12_finds N sN = some σ') : Met l yX12_init (Cond.code yX12_init cX12_init 2 none :: lw_kept) (bRm 20 27 86002) (va_Pc [.ref (base + 0)] (fun U => FB (wM D cA base) vcM base sZ op 1 U.heap ∧ bK (wM D cA base) base zq U)) (jQ (wM D cA base) σ' (fbA base)) 27 86002 (fbA base) := by
  refine i_introG (t := 0) (av := []) (by decide) rfl (Nat.le_of_ble_eq_true rfl) (fun p e s m args below meth c ls hx hb hml hown hts hin hr hlocks hBK hsz hF hS hl => ?_)
  have hK := hBK.1
  have SC : CallFix p m c cX12_init 2 s args lw_kept RX12 := ⟨hx, hb, hml, hown, hts⟩
  have hown : s.vm.findClass RX12 = some m.cls := hown
  have hcI : s.vm.findClass ("[" ++ FieldType.int.toString) = some (cA 1) := (hK.1.2 0 _ rfl).2
  have hcL : s.vm.findClass ("[" ++ FieldType.long.toString) = some (cA 2) := (hK.1.2 1 _ rfl).2
  have hcZ : s.vm.findClass ("[" ++ FieldType.boolean.toString) = some (cA 3) := (hK.1.2 2 _ rfl).2
  refine lv_aload_n hx hb (k_at kX12_init_ok 0 rfl) rfl (lv_at hl 0 rfl) ?_
  refine fb_obj SC (kept_t 848 (by decide +kernel) rfl) (kept_t 24 (by decide +kernel) rfl) (kept_t 25 (by decide +kernel) rfl) hl.1 ⟨(Nat.le_of_ble_eq_true rfl), (Nat.le_of_ble_eq_true rfl)⟩ (k_at kX12_init_ok 1 rfl) ?_
  refine W.eq (g2 := F0 m 4 ls []) rfl ?_
  refine lv_aload_n hx hb (k_at kX12_init_ok 2 rfl) rfl (lv_at hl 0 rfl) ?_
  refine lv_iconst hx hb (k_at kX12_init_ok 3 rfl) rfl ?_
  refine fb_newa (kd := 3) hx hb hts hK hF hS (by omega) (by omega) (atype := .boolean) (ty := .boolean) rfl (kept_t 44 (by decide +kernel) rfl) hcZ (q0 := (72, 0)) rfl (hno 1 (by decide)) (a0 := (4, .inl fun k => Int32.ofInt (sZ 72 0 k))) rfl (N := 4) (fun cA => z_bool (fun _ => i0) cA 4) (by decide) (by decide) (by decide) (Nat.le_of_ble_eq_true rfl) (Nat.le_of_ble_eq_true rfl) (k_at kX12_init_ok 4 rfl) (fun _ h => h) ?_
  intro H hF hS
  refine fb_put hx hb hts hK hin hF hS (by omega) hown 0 (71, 0) (by decide) rfl (fun k hk h => vm_u h rfl) (fs := fsM0 base) hop rfl inX12 tyX12 tyX12_ok nmX12 0 (by decide) (kept_t 945 (by decide +kernel) rfl) rfl rfl rfl rfl (Nat.le_of_ble_eq_true rfl) (k_at kX12_init_ok 5 rfl) ?_
  intro H locs hF hS
  replace hF : FB (wM D cA base) vcM base sZ (opS op (71, 0) (some (.inr (12, fsM1 base)))) 2 H := hF
  refine W.eq (g2 := F0 m 11 ls []) rfl ?_
  refine lv_aload_n hx hb (k_at kX12_init_ok 6 rfl) rfl (lv_at hl 0 rfl) ?_
  refine lv_bipush hx hb (k_at kX12_init_ok 7 rfl) (ofI_8 (by decide) (by decide)) ?_
  refine fb_newa (kd := 1) hx hb hts hK hF hS (by omega) (by omega) (atype := .int) (ty := .int) rfl (kept_t 43 (by decide +kernel) rfl) hcI (q0 := (73, 0)) rfl ((opS_noM hno (show 0 < 1 by decide) (Nat.le_refl _)) 2 (by decide)) (a0 := (12, .inl fun k => Int32.ofInt (sZ 73 0 k))) rfl (N := 12) (fun cA => z_int (fun _ => i0) cA 12) (by decide) (by decide) (by decide) (Nat.le_of_ble_eq_true rfl) (Nat.le_of_ble_eq_true rfl) (k_at kX12_init_ok 8 rfl) (fun _ h => h) ?_
  intro H hF hS
  refine fb_put hx hb hts hK hin hF hS (by omega) hown 0 (71, 0) (by decide) rfl (fun k hk h => vm_u h rfl) (fs := fsM1 base) (opS_s _ _ _) rfl inX12 tyX12 tyX12_ok nmX12 1 (by decide) (kept_t 946 (by decide +kernel) rfl) rfl rfl rfl rfl (Nat.le_of_ble_eq_true rfl) (k_at kX12_init_ok 9 rfl) ?_
  intro H locs hF hS
  rw [opS_opS] at hF
  replace hF : FB (wM D cA base) vcM base sZ (opS op (71, 0) (some (.inr (12, fsM2 base)))) 3 H := hF
  refine W.eq (g2 := F0 m 19 ls []) rfl ?_
  refine lv_aload_n hx hb (k_at kX12_init_ok 10 rfl) rfl (lv_at hl 0 rfl) ?_
  refine lv_sipush hx hb (k_at kX12_init_ok 11 rfl) (ofI_16 (by decide) (by decide)) ?_
  refine fb_newa (kd := 1) hx hb hts hK hF hS (by omega) (by omega) (atype := .int) (ty := .int) rfl (kept_t 43 (by decide +kernel) rfl) hcI (q0 := (74, 0)) rfl ((opS_noM hno (show 0 < 1 by decide) (Nat.le_refl _)) 3 (by decide)) (a0 := (144, .inl fun k => Int32.ofInt (sZ 74 0 k))) rfl (N := 144) (fun cA => z_int (fun _ => i0) cA 144) (by decide) (by decide) (by decide) (Nat.le_of_ble_eq_true rfl) (Nat.le_of_ble_eq_true rfl) (k_at kX12_init_ok 12 rfl) (fun _ h => h) ?_
  intro H hF hS
  refine fb_put hx hb hts hK hin hF hS (by omega) hown 0 (71, 0) (by decide) rfl (fun k hk h => vm_u h rfl) (fs := fsM2 base) (opS_s _ _ _) rfl inX12 tyX12 tyX12_ok nmX12 2 (by decide) (kept_t 947 (by decide +kernel) rfl) rfl rfl rfl rfl (Nat.le_of_ble_eq_true rfl) (k_at kX12_init_ok 13 rfl) ?_
  intro H locs hF hS
  rw [opS_opS] at hF
  replace hF : FB (wM D cA base) vcM base sZ (opS op (71, 0) (some (.inr (12, fsM3 base)))) 4 H := hF
  refine W.eq (g2 := F0 m 28 ls []) rfl ?_
  refine lv_aload_n hx hb (k_at kX12_init_ok 14 rfl) rfl (lv_at hl 0 rfl) ?_
  refine lv_bipush hx hb (k_at kX12_init_ok 15 rfl) (ofI_8 (by decide) (by decide)) ?_
  refine fb_newa (kd := 1) hx hb hts hK hF hS (by omega) (by omega) (atype := .int) (ty := .int) rfl (kept_t 43 (by decide +kernel) rfl) hcI (q0 := (75, 0)) rfl ((opS_noM hno (show 0 < 1 by decide) (Nat.le_refl _)) 4 (by decide)) (a0 := (48, .inl fun k => Int32.ofInt (sZ 75 0 k))) rfl (N := 48) (fun cA => z_int (fun _ => i0) cA 48) (by decide) (by decide) (by decide) (Nat.le_of_ble_eq_true rfl) (Nat.le_of_ble_eq_true rfl) (k_at kX12_init_ok 16 rfl) (fun _ h => h) ?_
  intro H hF hS
  refine fb_put hx hb hts hK hin hF hS (by omega) hown 0 (71, 0) (by decide) rfl (fun k hk h => vm_u h rfl) (fs := fsM3 base) (opS_s _ _ _) rfl inX12 tyX12 tyX12_ok nmX12 3 (by decide) (kept_t 948 (by decide +kernel) rfl) rfl rfl rfl rfl (Nat.le_of_ble_eq_true rfl) (k_at kX12_init_ok 17 rfl) ?_
  intro H locs hF hS
  rw [opS_opS] at hF
  replace hF : FB (wM D cA base) vcM base sZ (opS op (71, 0) (some (.inr (12, fsM4 base)))) 5 H := hF
  refine W.eq (g2 := F0 m 36 ls []) rfl ?_
  refine lv_aload_n hx hb (k_at kX12_init_ok 18 rfl) rfl (lv_at hl 0 rfl) ?_
  refine lv_bipush hx hb (k_at kX12_init_ok 19 rfl) (ofI_8 (by decide) (by decide)) ?_
  refine fb_newa (kd := 1) hx hb hts hK hF hS (by omega) (by omega) (atype := .int) (ty := .int) rfl (kept_t 43 (by decide +kernel) rfl) hcI (q0 := (76, 0)) rfl ((opS_noM hno (show 0 < 1 by decide) (Nat.le_refl _)) 5 (by decide)) (a0 := (48, .inl fun k => Int32.ofInt (sZ 76 0 k))) rfl (N := 48) (fun cA => z_int (fun _ => i0) cA 48) (by decide) (by decide) (by decide) (Nat.le_of_ble_eq_true rfl) (Nat.le_of_ble_eq_true rfl) (k_at kX12_init_ok 20 rfl) (fun _ h => h) ?_
  intro H hF hS
  refine fb_put hx hb hts hK hin hF hS (by omega) hown 0 (71, 0) (by decide) rfl (fun k hk h => vm_u h rfl) (fs := fsM4 base) (opS_s _ _ _) rfl inX12 tyX12 tyX12_ok nmX12 4 (by decide) (kept_t 949 (by decide +kernel) rfl) rfl rfl rfl rfl (Nat.le_of_ble_eq_true rfl) (k_at kX12_init_ok 21 rfl) ?_
  intro H locs hF hS
  rw [opS_opS] at hF
  replace hF : FB (wM D cA base) vcM base sZ (opS op (71, 0) (some (.inr (12, fsM5 base)))) 6 H := hF
  refine W.eq (g2 := F0 m 44 ls []) rfl ?_
  refine lv_aload_n hx hb (k_at kX12_init_ok 22 rfl) rfl (lv_at hl 0 rfl) ?_
  refine lv_bipush hx hb (k_at kX12_init_ok 23 rfl) (ofI_8 (by decide) (by decide)) ?_
  refine fb_newa (kd := 1) hx hb hts hK hF hS (by omega) (by omega) (atype := .int) (ty := .int) rfl (kept_t 43 (by decide +kernel) rfl) hcI (q0 := (77, 0)) rfl ((opS_noM hno (show 0 < 1 by decide) (Nat.le_refl _)) 6 (by decide)) (a0 := (12, .inl fun k => Int32.ofInt (sZ 77 0 k))) rfl (N := 12) (fun cA => z_int (fun _ => i0) cA 12) (by decide) (by decide) (by decide) (Nat.le_of_ble_eq_true rfl) (Nat.le_of_ble_eq_true rfl) (k_at kX12_init_ok 24 rfl) (fun _ h => h) ?_
  intro H hF hS
  refine fb_put hx hb hts hK hin hF hS (by omega) hown 0 (71, 0) (by decide) rfl (fun k hk h => vm_u h rfl) (fs := fsM5 base) (opS_s _ _ _) rfl inX12 tyX12 tyX12_ok nmX12 5 (by decide) (kept_t 950 (by decide +kernel) rfl) rfl rfl rfl rfl (Nat.le_of_ble_eq_true rfl) (k_at kX12_init_ok 25 rfl) ?_
  intro H locs hF hS
  rw [opS_opS] at hF
  replace hF : FB (wM D cA base) vcM base sZ (opS op (71, 0) (some (.inr (12, fsM6 base)))) 7 H := hF
  refine W.eq (g2 := F0 m 52 ls []) rfl ?_
  refine lv_aload_n hx hb (k_at kX12_init_ok 26 rfl) rfl (lv_at hl 0 rfl) ?_
  refine lv_bipush hx hb (k_at kX12_init_ok 27 rfl) (ofI_8 (by decide) (by decide)) ?_
  refine fb_newa (kd := 1) hx hb hts hK hF hS (by omega) (by omega) (atype := .int) (ty := .int) rfl (kept_t 43 (by decide +kernel) rfl) hcI (q0 := (78, 0)) rfl ((opS_noM hno (show 0 < 1 by decide) (Nat.le_refl _)) 7 (by decide)) (a0 := (48, .inl fun k => Int32.ofInt (sZ 78 0 k))) rfl (N := 48) (fun cA => z_int (fun _ => i0) cA 48) (by decide) (by decide) (by decide) (Nat.le_of_ble_eq_true rfl) (Nat.le_of_ble_eq_true rfl) (k_at kX12_init_ok 28 rfl) (fun _ h => h) ?_
  intro H hF hS
  refine fb_put hx hb hts hK hin hF hS (by omega) hown 0 (71, 0) (by decide) rfl (fun k hk h => vm_u h rfl) (fs := fsM6 base) (opS_s _ _ _) rfl inX12 tyX12 tyX12_ok nmX12 8 (by decide) (kept_t 953 (by decide +kernel) rfl) rfl rfl rfl rfl (Nat.le_of_ble_eq_true rfl) (k_at kX12_init_ok 29 rfl) ?_
  intro H locs hF hS
  rw [opS_opS] at hF
  replace hF : FB (wM D cA base) vcM base sZ (opS op (71, 0) (some (.inr (12, fsM7 base)))) 8 H := hF
  refine W.eq (g2 := F0 m 60 ls []) rfl ?_
  refine lv_aload_n hx hb (k_at kX12_init_ok 30 rfl) rfl (lv_at hl 0 rfl) ?_
  refine lv_sipush hx hb (k_at kX12_init_ok 31 rfl) (ofI_16 (by decide) (by decide)) ?_
  refine fb_newa (kd := 1) hx hb hts hK hF hS (by omega) (by omega) (atype := .int) (ty := .int) rfl (kept_t 43 (by decide +kernel) rfl) hcI (q0 := (79, 0)) rfl ((opS_noM hno (show 0 < 1 by decide) (Nat.le_refl _)) 8 (by decide)) (a0 := (768, .inl fun k => Int32.ofInt (sZ 79 0 k))) rfl (N := 768) (fun cA => z_int (fun _ => i0) cA 768) (by decide) (by decide) (by decide) (Nat.le_of_ble_eq_true rfl) (Nat.le_of_ble_eq_true rfl) (k_at kX12_init_ok 32 rfl) (fun _ h => h) ?_
  intro H hF hS
  refine fb_put hx hb hts hK hin hF hS (by omega) hown 0 (71, 0) (by decide) rfl (fun k hk h => vm_u h rfl) (fs := fsM7 base) (opS_s _ _ _) rfl inX12 tyX12 tyX12_ok nmX12 9 (by decide) (kept_t 954 (by decide +kernel) rfl) rfl rfl rfl rfl (Nat.le_of_ble_eq_true rfl) (k_at kX12_init_ok 33 rfl) ?_
  intro H locs hF hS
  rw [opS_opS] at hF
  replace hF : FB (wM D cA base) vcM base sZ (opS op (71, 0) (some (.inr (12, fsM8 base)))) 9 H := hF
  refine W.eq (g2 := F0 m 69 ls []) rfl ?_
  refine lv_aload_n hx hb (k_at kX12_init_ok 34 rfl) rfl (lv_at hl 0 rfl) ?_
  refine lv_bipush hx hb (k_at kX12_init_ok 35 rfl) (ofI_8 (by decide) (by decide)) ?_
  refine fb_newa (kd := 3) hx hb hts hK hF hS (by omega) (by omega) (atype := .boolean) (ty := .boolean) rfl (kept_t 44 (by decide +kernel) rfl) hcZ (q0 := (80, 0)) rfl ((opS_noM hno (show 0 < 1 by decide) (Nat.le_refl _)) 9 (by decide)) (a0 := (48, .inl fun k => Int32.ofInt (sZ 80 0 k))) rfl (N := 48) (fun cA => z_bool (fun _ => i0) cA 48) (by decide) (by decide) (by decide) (Nat.le_of_ble_eq_true rfl) (Nat.le_of_ble_eq_true rfl) (k_at kX12_init_ok 36 rfl) (fun _ h => h) ?_
  intro H hF hS
  refine fb_put hx hb hts hK hin hF hS (by omega) hown 0 (71, 0) (by decide) rfl (fun k hk h => vm_u h rfl) (fs := fsM8 base) (opS_s _ _ _) rfl inX12 tyX12 tyX12_ok nmX12 12 (by decide) (kept_t 957 (by decide +kernel) rfl) rfl rfl rfl rfl (Nat.le_of_ble_eq_true rfl) (k_at kX12_init_ok 37 rfl) ?_
  intro H locs hF hS
  rw [opS_opS] at hF
  replace hF : FB (wM D cA base) vcM base sZ (opS op (71, 0) (some (.inr (12, fsM9 base)))) 10 H := hF
  refine W.eq (g2 := F0 m 77 ls []) rfl ?_
  refine lv_aload_n hx hb (k_at kX12_init_ok 38 rfl) rfl (lv_at hl 0 rfl) ?_
  refine lv_sipush hx hb (k_at kX12_init_ok 39 rfl) (ofI_16 (by decide) (by decide)) ?_
  refine fb_newa (kd := 1) hx hb hts hK hF hS (by omega) (by omega) (atype := .int) (ty := .int) rfl (kept_t 43 (by decide +kernel) rfl) hcI (q0 := (81, 0)) rfl ((opS_noM hno (show 0 < 1 by decide) (Nat.le_refl _)) 10 (by decide)) (a0 := (7290, .inl fun k => Int32.ofInt (sZ 81 0 k))) rfl (N := 7290) (fun cA => z_int (fun _ => i0) cA 7290) (by decide) (by decide) (by decide) (Nat.le_of_ble_eq_true rfl) (Nat.le_of_ble_eq_true rfl) (k_at kX12_init_ok 40 rfl) (fun _ h => h) ?_
  intro H hF hS
  refine fb_put hx hb hts hK hin hF hS (by omega) hown 0 (71, 0) (by decide) rfl (fun k hk h => vm_u h rfl) (fs := fsM9 base) (opS_s _ _ _) rfl inX12 tyX12 tyX12_ok nmX12 13 (by decide) (kept_t 958 (by decide +kernel) rfl) rfl rfl rfl rfl (Nat.le_of_ble_eq_true rfl) (k_at kX12_init_ok 41 rfl) ?_
  intro H locs hF hS
  rw [opS_opS] at hF
  replace hF : FB (wM D cA base) vcM base sZ (opS op (71, 0) (some (.inr (12, fsM10 base)))) 11 H := hF
  refine W.eq (g2 := F0 m 86 ls []) rfl ?_
  refine lv_aload_n hx hb (k_at kX12_init_ok 42 rfl) rfl (lv_at hl 0 rfl) ?_
  refine lv_sipush hx hb (k_at kX12_init_ok 43 rfl) (ofI_16 (by decide) (by decide)) ?_
  refine fb_newa (kd := 2) hx hb hts hK hF hS (by omega) (by omega) (atype := .long) (ty := .long) rfl (kept_t 1072 (by decide +kernel) rfl) hcL (q0 := (82, 0)) rfl ((opS_noM hno (show 0 < 1 by decide) (Nat.le_refl _)) 11 (by decide)) (a0 := (201, .inr (.inl fun k => Int64.ofInt (sZ 82 0 k)))) rfl (N := 201) (fun cA => z_long (fun _ => l0) cA 201) (by decide) (by decide) (by decide) (Nat.le_of_ble_eq_true rfl) (Nat.le_of_ble_eq_true rfl) (k_at kX12_init_ok 44 rfl) (fun _ h => h) ?_
  intro H hF hS
  refine fb_put hx hb hts hK hin hF hS (by omega) hown 0 (71, 0) (by decide) rfl (fun k hk h => vm_u h rfl) (fs := fsM10 base) (opS_s _ _ _) rfl inX12 tyX12 tyX12_ok nmX12 18 (by decide) (kept_t 963 (by decide +kernel) rfl) rfl rfl rfl rfl (Nat.le_of_ble_eq_true rfl) (k_at kX12_init_ok 45 rfl) ?_
  intro H locs hF hS
  rw [opS_opS] at hF
  replace hF : FB (wM D cA base) vcM base sZ (opS op (71, 0) (some (.inr (12, fsM11 base)))) 12 H := hF
  refine W.eq (g2 := F0 m 95 ls []) rfl ?_
  refine lv_aload_n hx hb (k_at kX12_init_ok 46 rfl) rfl (lv_at hl 0 rfl) ?_
  refine lv_bipush hx hb (k_at kX12_init_ok 47 rfl) (ofI_8 (by decide) (by decide)) ?_
  refine fb_newa (kd := 1) hx hb hts hK hF hS (by omega) (by omega) (atype := .int) (ty := .int) rfl (kept_t 43 (by decide +kernel) rfl) hcI (q0 := (83, 0)) rfl ((opS_noM hno (show 0 < 1 by decide) (Nat.le_refl _)) 12 (by decide)) (a0 := (40, .inl fun k => Int32.ofInt (sZ 83 0 k))) rfl (N := 40) (fun cA => z_int (fun _ => i0) cA 40) (by decide) (by decide) (by decide) (Nat.le_of_ble_eq_true rfl) (Nat.le_of_ble_eq_true rfl) (k_at kX12_init_ok 48 rfl) (fun _ h => h) ?_
  intro H hF hS
  refine fb_put hx hb hts hK hin hF hS (by omega) hown 0 (71, 0) (by decide) rfl (fun k hk h => vm_u h rfl) (fs := fsM11 base) (opS_s _ _ _) rfl inX12 tyX12 tyX12_ok nmX12 20 (by decide) (kept_t 965 (by decide +kernel) rfl) rfl rfl rfl rfl (Nat.le_of_ble_eq_true rfl) (k_at kX12_init_ok 49 rfl) ?_
  intro H locs hF hS
  rw [opS_opS] at hF
  replace hF : FB (wM D cA base) vcM base sZ (opS op (71, 0) (some (.inr (12, fsM12 base)))) 13 H := hF
  refine W.eq (g2 := F0 m 103 ls []) rfl ?_
  refine lv_aload_n hx hb (k_at kX12_init_ok 50 rfl) rfl (lv_at hl 0 rfl) ?_
  refine lv_sipush hx hb (k_at kX12_init_ok 51 rfl) (ofI_16 (by decide) (by decide)) ?_
  refine fb_newa (kd := 1) hx hb hts hK hF hS (by omega) (by omega) (atype := .int) (ty := .int) rfl (kept_t 43 (by decide +kernel) rfl) hcI (q0 := (84, 0)) rfl ((opS_noM hno (show 0 < 1 by decide) (Nat.le_refl _)) 13 (by decide)) (a0 := (29160, .inl fun k => Int32.ofInt (sZ 84 0 k))) rfl (N := 29160) (fun cA => z_int (fun _ => i0) cA 29160) (by decide) (by decide) (by decide) (Nat.le_of_ble_eq_true rfl) (Nat.le_of_ble_eq_true rfl) (k_at kX12_init_ok 52 rfl) (fun _ h => h) ?_
  intro H hF hS
  refine fb_put hx hb hts hK hin hF hS (by omega) hown 0 (71, 0) (by decide) rfl (fun k hk h => vm_u h rfl) (fs := fsM12 base) (opS_s _ _ _) rfl inX12 tyX12 tyX12_ok nmX12 21 (by decide) (kept_t 966 (by decide +kernel) rfl) rfl rfl rfl rfl (Nat.le_of_ble_eq_true rfl) (k_at kX12_init_ok 53 rfl) ?_
  intro H locs hF hS
  rw [opS_opS] at hF
  replace hF : FB (wM D cA base) vcM base sZ (opS op (71, 0) (some (.inr (12, fsM13 base)))) 14 H := hF
  refine W.eq (g2 := F0 m 112 ls []) rfl ?_
  refine lv_aload_n hx hb (k_at kX12_init_ok 54 rfl) rfl (lv_at hl 0 rfl) ?_
  refine lv_sipush hx hb (k_at kX12_init_ok 55 rfl) (ofI_16 (by decide) (by decide)) ?_
  refine fb_newa (kd := 1) hx hb hts hK hF hS (by omega) (by omega) (atype := .int) (ty := .int) rfl (kept_t 43 (by decide +kernel) rfl) hcI (q0 := (85, 0)) rfl ((opS_noM hno (show 0 < 1 by decide) (Nat.le_refl _)) 14 (by decide)) (a0 := (16000, .inl fun k => Int32.ofInt (sZ 85 0 k))) rfl (N := 16000) (fun cA => z_int (fun _ => i0) cA 16000) (by decide) (by decide) (by decide) (Nat.le_of_ble_eq_true rfl) (Nat.le_of_ble_eq_true rfl) (k_at kX12_init_ok 56 rfl) (fun _ h => h) ?_
  intro H hF hS
  refine fb_put hx hb hts hK hin hF hS (by omega) hown 0 (71, 0) (by decide) rfl (fun k hk h => vm_u h rfl) (fs := fsM13 base) (opS_s _ _ _) rfl inX12 tyX12 tyX12_ok nmX12 22 (by decide) (kept_t 967 (by decide +kernel) rfl) rfl rfl rfl rfl (Nat.le_of_ble_eq_true rfl) (k_at kX12_init_ok 57 rfl) ?_
  intro H locs hF hS
  rw [opS_opS] at hF
  replace hF : FB (wM D cA base) vcM base sZ (opS op (71, 0) (some (.inr (12, fsM14 base)))) 15 H := hF
  refine W.eq (g2 := F0 m 121 ls []) rfl ?_
  refine lv_aload_n hx hb (k_at kX12_init_ok 58 rfl) rfl (lv_at hl 0 rfl) ?_
  refine lv_bipush hx hb (k_at kX12_init_ok 59 rfl) (ofI_8 (by decide) (by decide)) ?_
  refine fb_newa (kd := 1) hx hb hts hK hF hS (by omega) (by omega) (atype := .int) (ty := .int) rfl (kept_t 43 (by decide +kernel) rfl) hcI (q0 := (86, 0)) rfl ((opS_noM hno (show 0 < 1 by decide) (Nat.le_refl _)) 15 (by decide)) (a0 := (30, .inl fun k => Int32.ofInt (sZ 86 0 k))) rfl (N := 30) (fun cA => z_int (fun _ => i0) cA 30) (by decide) (by decide) (by decide) (Nat.le_of_ble_eq_true rfl) (Nat.le_of_ble_eq_true rfl) (k_at kX12_init_ok 60 rfl) (fun _ h => h) ?_
  intro H hF hS
  refine fb_put hx hb hts hK hin hF hS (by omega) hown 0 (71, 0) (by decide) rfl (fun k hk h => vm_u h rfl) (fs := fsM14 base) (opS_s _ _ _) rfl inX12 tyX12 tyX12_ok nmX12 23 (by decide) (kept_t 968 (by decide +kernel) rfl) rfl rfl rfl rfl (Nat.le_of_ble_eq_true rfl) (k_at kX12_init_ok 61 rfl) ?_
  intro H locs hF hS
  rw [opS_opS] at hF
  replace hF : FB (wM D cA base) vcM base sZ (opS op (71, 0) (some (.inr (12, fsM15 base)))) 16 H := hF
  refine W.eq (g2 := F0 m 129 ls []) rfl ?_
  refine lv_aload_n hx hb (k_at kX12_init_ok 62 rfl) rfl (lv_at hl 0 rfl) ?_
  refine lv_sipush hx hb (k_at kX12_init_ok 63 rfl) (ofI_16 (by decide) (by decide)) ?_
  refine fb_newa (kd := 1) hx hb hts hK hF hS (by omega) (by omega) (atype := .int) (ty := .int) rfl (kept_t 43 (by decide +kernel) rfl) hcI (q0 := (87, 0)) rfl ((opS_noM hno (show 0 < 1 by decide) (Nat.le_refl _)) 16 (by decide)) (a0 := (729, .inl fun k => Int32.ofInt (sZ 87 0 k))) rfl (N := 729) (fun cA => z_int (fun _ => i0) cA 729) (by decide) (by decide) (by decide) (Nat.le_of_ble_eq_true rfl) (Nat.le_of_ble_eq_true rfl) (k_at kX12_init_ok 64 rfl) (fun _ h => h) ?_
  intro H hF hS
  refine fb_put hx hb hts hK hin hF hS (by omega) hown 0 (71, 0) (by decide) rfl (fun k hk h => vm_u h rfl) (fs := fsM15 base) (opS_s _ _ _) rfl inX12 tyX12 tyX12_ok nmX12 24 (by decide) (kept_t 969 (by decide +kernel) rfl) rfl rfl rfl rfl (Nat.le_of_ble_eq_true rfl) (k_at kX12_init_ok 65 rfl) ?_
  intro H locs hF hS
  rw [opS_opS] at hF
  replace hF : FB (wM D cA base) vcM base sZ (opS op (71, 0) (some (.inr (12, fsM16 base)))) 17 H := hF
  refine W.eq (g2 := F0 m 138 ls []) rfl ?_
  refine lv_aload_n hx hb (k_at kX12_init_ok 66 rfl) rfl (lv_at hl 0 rfl) ?_
  refine lv_bipush hx hb (k_at kX12_init_ok 67 rfl) (ofI_8 (by decide) (by decide)) ?_
  refine fb_newa (kd := 1) hx hb hts hK hF hS (by omega) (by omega) (atype := .int) (ty := .int) rfl (kept_t 43 (by decide +kernel) rfl) hcI (q0 := (88, 0)) rfl ((opS_noM hno (show 0 < 1 by decide) (Nat.le_refl _)) 17 (by decide)) (a0 := (40, .inl fun k => Int32.ofInt (sZ 88 0 k))) rfl (N := 40) (fun cA => z_int (fun _ => i0) cA 40) (by decide) (by decide) (by decide) (Nat.le_of_ble_eq_true rfl) (Nat.le_of_ble_eq_true rfl) (k_at kX12_init_ok 68 rfl) (fun _ h => h) ?_
  intro H hF hS
  refine fb_put hx hb hts hK hin hF hS (by omega) hown 0 (71, 0) (by decide) rfl (fun k hk h => vm_u h rfl) (fs := fsM16 base) (opS_s _ _ _) rfl inX12 tyX12 tyX12_ok nmX12 25 (by decide) (kept_t 970 (by decide +kernel) rfl) rfl rfl rfl rfl (Nat.le_of_ble_eq_true rfl) (k_at kX12_init_ok 69 rfl) ?_
  intro H locs hF hS
  rw [opS_opS] at hF
  replace hF : FB (wM D cA base) vcM base sZ (opS op (71, 0) (some (.inr (12, fsM17 base)))) 18 H := hF
  refine W.eq (g2 := F0 m 146 ls []) rfl ?_
  refine lv_aload_n hx hb (k_at kX12_init_ok 70 rfl) rfl (lv_at hl 0 rfl) ?_
  refine lv_bipush hx hb (k_at kX12_init_ok 71 rfl) (ofI_8 (by decide) (by decide)) ?_
  refine fb_newa (kd := 1) hx hb hts hK hF hS (by omega) (by omega) (atype := .int) (ty := .int) rfl (kept_t 43 (by decide +kernel) rfl) hcI (q0 := (89, 0)) rfl ((opS_noM hno (show 0 < 1 by decide) (Nat.le_refl _)) 18 (by decide)) (a0 := (30, .inl fun k => Int32.ofInt (sZ 89 0 k))) rfl (N := 30) (fun cA => z_int (fun _ => i0) cA 30) (by decide) (by decide) (by decide) (Nat.le_of_ble_eq_true rfl) (Nat.le_of_ble_eq_true rfl) (k_at kX12_init_ok 72 rfl) (fun _ h => h) ?_
  intro H hF hS
  refine fb_put hx hb hts hK hin hF hS (by omega) hown 0 (71, 0) (by decide) rfl (fun k hk h => vm_u h rfl) (fs := fsM17 base) (opS_s _ _ _) rfl inX12 tyX12 tyX12_ok nmX12 28 (by decide) (kept_t 973 (by decide +kernel) rfl) rfl rfl rfl rfl (Nat.le_of_ble_eq_true rfl) (k_at kX12_init_ok 73 rfl) ?_
  intro H locs hF hS
  rw [opS_opS] at hF
  replace hF : FB (wM D cA base) vcM base sZ (opS op (71, 0) (some (.inr (12, fsM18 base)))) 19 H := hF
  refine W.eq (g2 := F0 m 154 ls []) rfl ?_
  refine lv_aload_n hx hb (k_at kX12_init_ok 74 rfl) rfl (lv_at hl 0 rfl) ?_
  refine lv_sipush hx hb (k_at kX12_init_ok 75 rfl) (ofI_16 (by decide) (by decide)) ?_
  refine fb_newa (kd := 1) hx hb hts hK hF hS (by omega) (by omega) (atype := .int) (ty := .int) rfl (kept_t 43 (by decide +kernel) rfl) hcI (q0 := (90, 0)) rfl ((opS_noM hno (show 0 < 1 by decide) (Nat.le_refl _)) 19 (by decide)) (a0 := (900, .inl fun k => Int32.ofInt (sZ 90 0 k))) rfl (N := 900) (fun cA => z_int (fun _ => i0) cA 900) (by decide) (by decide) (by decide) (Nat.le_of_ble_eq_true rfl) (Nat.le_of_ble_eq_true rfl) (k_at kX12_init_ok 76 rfl) (fun _ h => h) ?_
  intro H hF hS
  refine fb_put hx hb hts hK hin hF hS (by omega) hown 0 (71, 0) (by decide) rfl (fun k hk h => vm_u h rfl) (fs := fsM18 base) (opS_s _ _ _) rfl inX12 tyX12 tyX12_ok nmX12 29 (by decide) (kept_t 974 (by decide +kernel) rfl) rfl rfl rfl rfl (Nat.le_of_ble_eq_true rfl) (k_at kX12_init_ok 77 rfl) ?_
  intro H locs hF hS
  rw [opS_opS] at hF
  replace hF : FB (wM D cA base) vcM base sZ (opS op (71, 0) (some (.inr (12, fsM19 base)))) 20 H := hF
  refine W.eq (g2 := F0 m 163 ls []) rfl ?_
  refine lv_aload_n hx hb (k_at kX12_init_ok 78 rfl) rfl (lv_at hl 0 rfl) ?_
  refine lv_bipush hx hb (k_at kX12_init_ok 79 rfl) (ofI_8 (by decide) (by decide)) ?_
  refine fb_newa (kd := 1) hx hb hts hK hF hS (by omega) (by omega) (atype := .int) (ty := .int) rfl (kept_t 43 (by decide +kernel) rfl) hcI (q0 := (91, 0)) rfl ((opS_noM hno (show 0 < 1 by decide) (Nat.le_refl _)) 20 (by decide)) (a0 := (30, .inl fun k => Int32.ofInt (sZ 91 0 k))) rfl (N := 30) (fun cA => z_int (fun _ => i0) cA 30) (by decide) (by decide) (by decide) (Nat.le_of_ble_eq_true rfl) (Nat.le_of_ble_eq_true rfl) (k_at kX12_init_ok 80 rfl) (fun _ h => h) ?_
  intro H hF hS
  refine fb_put hx hb hts hK hin hF hS (by omega) hown 0 (71, 0) (by decide) rfl (fun k hk h => vm_u h rfl) (fs := fsM19 base) (opS_s _ _ _) rfl inX12 tyX12 tyX12_ok nmX12 30 (by decide) (kept_t 975 (by decide +kernel) rfl) rfl rfl rfl rfl (Nat.le_of_ble_eq_true rfl) (k_at kX12_init_ok 81 rfl) ?_
  intro H locs hF hS
  rw [opS_opS] at hF
  replace hF : FB (wM D cA base) vcM base sZ (opS op (71, 0) (some (.inr (12, fsM20 base)))) 21 H := hF
  refine W.eq (g2 := F0 m 171 ls []) rfl ?_
  refine lv_aload_n hx hb (k_at kX12_init_ok 82 rfl) rfl (lv_at hl 0 rfl) ?_
  refine lv_sipush hx hb (k_at kX12_init_ok 83 rfl) (ofI_16 (by decide) (by decide)) ?_
  refine fb_newa (kd := 1) hx hb hts hK hF hS (by omega) (by omega) (atype := .int) (ty := .int) rfl (kept_t 43 (by decide +kernel) rfl) hcI (q0 := (92, 0)) rfl ((opS_noM hno (show 0 < 1 by decide) (Nat.le_refl _)) 21 (by decide)) (a0 := (21870, .inl fun k => Int32.ofInt (sZ 92 0 k))) rfl (N := 21870) (fun cA => z_int (fun _ => i0) cA 21870) (by decide) (by decide) (by decide) (Nat.le_of_ble_eq_true rfl) (Nat.le_of_ble_eq_true rfl) (k_at kX12_init_ok 84 rfl) (fun _ h => h) ?_
  intro H hF hS
  refine fb_put hx hb hts hK hin hF hS (by omega) hown 0 (71, 0) (by decide) rfl (fun k hk h => vm_u h rfl) (fs := fsM20 base) (opS_s _ _ _) rfl inX12 tyX12 tyX12_ok nmX12 31 (by decide) (kept_t 976 (by decide +kernel) rfl) rfl rfl rfl rfl (Nat.le_of_ble_eq_true rfl) (k_at kX12_init_ok 85 rfl) ?_
  intro H locs hF hS
  rw [opS_opS] at hF
  replace hF : FB (wM D cA base) vcM base sZ (opS op (71, 0) (some (.inr (12, fsM21 base)))) 22 H := hF
  refine W.eq (g2 := F0 m 180 ls []) rfl ?_
  refine lv_aload_n hx hb (k_at kX12_init_ok 86 rfl) rfl (lv_at hl 0 rfl) ?_
  refine lv_sipush hx hb (k_at kX12_init_ok 87 rfl) (ofI_16 (by decide) (by decide)) ?_
  refine fb_newa (kd := 1) hx hb hts hK hF hS (by omega) (by omega) (atype := .int) (ty := .int) rfl (kept_t 43 (by decide +kernel) rfl) hcI (q0 := (93, 0)) rfl ((opS_noM hno (show 0 < 1 by decide) (Nat.le_refl _)) 22 (by decide)) (a0 := (200, .inl fun k => Int32.ofInt (sZ 93 0 k))) rfl (N := 200) (fun cA => z_int (fun _ => i0) cA 200) (by decide) (by decide) (by decide) (Nat.le_of_ble_eq_true rfl) (Nat.le_of_ble_eq_true rfl) (k_at kX12_init_ok 88 rfl) (fun _ h => h) ?_
  intro H hF hS
  refine fb_put hx hb hts hK hin hF hS (by omega) hown 0 (71, 0) (by decide) rfl (fun k hk h => vm_u h rfl) (fs := fsM21 base) (opS_s _ _ _) rfl inX12 tyX12 tyX12_ok nmX12 33 (by decide) (kept_t 978 (by decide +kernel) rfl) rfl rfl rfl rfl (Nat.le_of_ble_eq_true rfl) (k_at kX12_init_ok 89 rfl) ?_
  intro H locs hF hS
  rw [opS_opS] at hF
  replace hF : FB (wM D cA base) vcM base sZ (opS op (71, 0) (some (.inr (12, fsM22 base)))) 23 H := hF
  refine W.eq (g2 := F0 m 189 ls []) rfl ?_
  refine lv_aload_n hx hb (k_at kX12_init_ok 90 rfl) rfl (lv_at hl 0 rfl) ?_
  refine lv_sipush hx hb (k_at kX12_init_ok 91 rfl) (ofI_16 (by decide) (by decide)) ?_
  refine fb_newa (kd := 1) hx hb hts hK hF hS (by omega) (by omega) (atype := .int) (ty := .int) rfl (kept_t 43 (by decide +kernel) rfl) hcI (q0 := (94, 0)) rfl ((opS_noM hno (show 0 < 1 by decide) (Nat.le_refl _)) 23 (by decide)) (a0 := (200, .inl fun k => Int32.ofInt (sZ 94 0 k))) rfl (N := 200) (fun cA => z_int (fun _ => i0) cA 200) (by decide) (by decide) (by decide) (Nat.le_of_ble_eq_true rfl) (Nat.le_of_ble_eq_true rfl) (k_at kX12_init_ok 92 rfl) (fun _ h => h) ?_
  intro H hF hS
  refine fb_put hx hb hts hK hin hF hS (by omega) hown 0 (71, 0) (by decide) rfl (fun k hk h => vm_u h rfl) (fs := fsM22 base) (opS_s _ _ _) rfl inX12 tyX12 tyX12_ok nmX12 34 (by decide) (kept_t 979 (by decide +kernel) rfl) rfl rfl rfl rfl (Nat.le_of_ble_eq_true rfl) (k_at kX12_init_ok 93 rfl) ?_
  intro H locs hF hS
  rw [opS_opS] at hF
  replace hF : FB (wM D cA base) vcM base sZ (opS op (71, 0) (some (.inr (12, fsM23 base)))) 24 H := hF
  refine W.eq (g2 := F0 m 198 ls []) rfl ?_
  refine lv_aload_n hx hb (k_at kX12_init_ok 94 rfl) rfl (lv_at hl 0 rfl) ?_
  refine lv_sipush hx hb (k_at kX12_init_ok 95 rfl) (ofI_16 (by decide) (by decide)) ?_
  refine fb_newa (kd := 1) hx hb hts hK hF hS (by omega) (by omega) (atype := .int) (ty := .int) rfl (kept_t 43 (by decide +kernel) rfl) hcI (q0 := (95, 0)) rfl ((opS_noM hno (show 0 < 1 by decide) (Nat.le_refl _)) 24 (by decide)) (a0 := (8000, .inl fun k => Int32.ofInt (sZ 95 0 k))) rfl (N := 8000) (fun cA => z_int (fun _ => i0) cA 8000) (by decide) (by decide) (by decide) (Nat.le_of_ble_eq_true rfl) (Nat.le_of_ble_eq_true rfl) (k_at kX12_init_ok 96 rfl) (fun _ h => h) ?_
  intro H hF hS
  refine fb_put hx hb hts hK hin hF hS (by omega) hown 0 (71, 0) (by decide) rfl (fun k hk h => vm_u h rfl) (fs := fsM23 base) (opS_s _ _ _) rfl inX12 tyX12 tyX12_ok nmX12 35 (by decide) (kept_t 980 (by decide +kernel) rfl) rfl rfl rfl rfl (Nat.le_of_ble_eq_true rfl) (k_at kX12_init_ok 97 rfl) ?_
  intro H locs hF hS
  rw [opS_opS] at hF
  replace hF : FB (wM D cA base) vcM base sZ (opS op (71, 0) (some (.inr (12, fsM24 base)))) 25 H := hF
  refine W.eq (g2 := F0 m 207 ls []) rfl ?_
  refine lv_aload_n hx hb (k_at kX12_init_ok 98 rfl) rfl (lv_at hl 0 rfl) ?_
  refine lv_iconst hx hb (k_at kX12_init_ok 99 rfl) rfl ?_
  refine fb_newa (kd := 1) hx hb hts hK hF hS (by omega) (by omega) (atype := .int) (ty := .int) rfl (kept_t 43 (by decide +kernel) rfl) hcI (q0 := (96, 0)) rfl ((opS_noM hno (show 0 < 1 by decide) (Nat.le_refl _)) 25 (by decide)) (a0 := (3, .inl fun k => Int32.ofInt (sZ 96 0 k))) rfl (N := 3) (fun cA => z_int (fun _ => i0) cA 3) (by decide) (by decide) (by decide) (Nat.le_of_ble_eq_true rfl) (Nat.le_of_ble_eq_true rfl) (k_at kX12_init_ok 100 rfl) (fun _ h => h) ?_
  intro H hF hS
  refine fb_put hx hb hts hK hin hF hS (by omega) hown 0 (71, 0) (by decide) rfl (fun k hk h => vm_u h rfl) (fs := fsM24 base) (opS_s _ _ _) rfl inX12 tyX12 tyX12_ok nmX12 37 (by decide) (kept_t 982 (by decide +kernel) rfl) rfl rfl rfl rfl (Nat.le_of_ble_eq_true rfl) (k_at kX12_init_ok 101 rfl) ?_
  intro H locs hF hS
  rw [opS_opS] at hF
  replace hF : FB (wM D cA base) vcM base sZ (opS op (71, 0) (some (.inr (12, fsM25 base)))) 26 H := hF
  refine W.eq (g2 := F0 m 214 ls []) rfl ?_
  refine lv_aload_n hx hb (k_at kX12_init_ok 102 rfl) rfl (lv_at hl 0 rfl) ?_
  refine lv_sipush hx hb (k_at kX12_init_ok 103 rfl) (ofI_16 (by decide) (by decide)) ?_
  refine fb_newa (kd := 1) hx hb hts hK hF hS (by omega) (by omega) (atype := .int) (ty := .int) rfl (kept_t 43 (by decide +kernel) rfl) hcI (q0 := (97, 0)) rfl ((opS_noM hno (show 0 < 1 by decide) (Nat.le_refl _)) 26 (by decide)) (a0 := (144, .inl fun k => Int32.ofInt (sZ 97 0 k))) rfl (N := 144) (fun cA => z_int (fun _ => i0) cA 144) (by decide) (by decide) (by decide) (Nat.le_of_ble_eq_true rfl) (Nat.le_of_ble_eq_true rfl) (k_at kX12_init_ok 104 rfl) (fun _ h => h) ?_
  intro H hF hS
  refine fb_put hx hb hts hK hin hF hS (by omega) hown 0 (71, 0) (by decide) rfl (fun k hk h => vm_u h rfl) (fs := fsM25 base) (opS_s _ _ _) rfl inX12 tyX12 tyX12_ok nmX12 38 (by decide) (kept_t 983 (by decide +kernel) rfl) rfl rfl rfl rfl (Nat.le_of_ble_eq_true rfl) (k_at kX12_init_ok 105 rfl) ?_
  intro H locs hF hS
  rw [opS_opS] at hF
  replace hF : FB (wM D cA base) vcM base sZ (opS op (71, 0) (some (.inr (12, fsM26 base)))) 27 H := hF
  refine W.eq (g2 := F0 m 223 ls []) rfl ?_
  refine lv_aload_n hx hb (k_at kX12_init_ok 106 rfl) rfl (lv_at hl 0 rfl) ?_
  refine lv_iconst hx hb (k_at kX12_init_ok 107 rfl) rfl ?_
  refine fb_newa (kd := 1) hx hb hts hK hF hS (by omega) (by omega) (atype := .int) (ty := .int) rfl (kept_t 43 (by decide +kernel) rfl) hcI (q0 := (98, 0)) rfl ((opS_noM hno (show 0 < 1 by decide) (Nat.le_refl _)) 27 (by decide)) (a0 := (3, .inl fun k => Int32.ofInt (sZ 98 0 k))) rfl (N := 3) (fun cA => z_int (fun _ => i0) cA 3) (by decide) (by decide) (by decide) (Nat.le_of_ble_eq_true rfl) (Nat.le_of_ble_eq_true rfl) (k_at kX12_init_ok 108 rfl) (fun _ h => h) ?_
  intro H hF hS
  refine fb_put hx hb hts hK hin hF hS (by omega) hown 0 (71, 0) (by decide) rfl (fun k hk h => vm_u h rfl) (fs := fsM26 base) (opS_s _ _ _) rfl inX12 tyX12 tyX12_ok nmX12 39 (by decide) (kept_t 984 (by decide +kernel) rfl) rfl rfl rfl rfl (Nat.le_of_ble_eq_true rfl) (k_at kX12_init_ok 109 rfl) ?_
  intro H locs hF hS
  rw [opS_opS] at hF
  replace hF : FB (wM D cA base) vcM base sZ (opS op (71, 0) (some (.inr (12, fsM27 base)))) 28 H := hF
  refine W.eq (g2 := F0 m 230 ls []) rfl ?_
  have hR : mRep (wM D cA base) sZ H := rep_M (FB_cg hF (fun k _ => fb_close rfl _)) (fun k hk => by
    by_cases e : k = 0
    · subst e; exact opS_s _ _ _
    · exact (opS_n (fun z => e (vm_u z rfl))).trans (hno k (by omega))) (ok_sM D cA base)
  exact x12_tail hx hb hml hown hts hK hr hlocks hR hS hl hmk ⟨(Nat.le_of_ble_eq_true rfl), (Nat.le_of_ble_eq_true rfl)⟩ ⟨(Nat.le_of_ble_eq_true rfl), (Nat.le_of_ble_eq_true rfl)⟩
