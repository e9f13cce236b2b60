/-! numbers modulo the prime -/
theorem o_lrem_gen {a b : Int} (ha : mx a = a) (hb : 1 < b) (hb2 : b < 9223372036854775808) : o_lrem a b = a.tmod b := by
  unfold o_lrem
  have h1 : (Int64.ofInt a).toInt = a := ha
  have h2 : (Int64.ofInt b).toInt = b := Int64.toInt_ofInt_of_le (by omega) (by omega)
  have hr := mx_rg ha
  have hd : (Int64.ofInt a / Int64.ofInt b).toInt = a.tdiv b := by
    rw [Int64.toInt_div, h1, h2]
    have h3 := Int.natAbs_tdiv a b
    have h4 : a.natAbs / b.natAbs ≤ a.natAbs / 2 := Nat.div_le_div_left (by omega) (by omega)
    have h5 : a.natAbs ≤ 9223372036854775808 := by omega
    have h6 : (a.tdiv b).natAbs ≤ 4611686018427387904 := by rw [h3]; exact Nat.le_trans h4 (by omega)
    exact Int.bmod_eq_of_le (by omega) (by omega)
  rw [Int64.toInt_sub, Int64.toInt_mul, h1, h2, hd]
  have h5 : a.tdiv b * b = a - a.tmod b := by
    have := Int.tmod_add_mul_tdiv a b
    have h6 : b * a.tdiv b = a.tdiv b * b := Int.mul_comm _ _
    omega
  rw [h5]
  have h7 : a.tmod b < b := Int.tmod_lt_of_pos _ (by omega)
  have h8 : -b < a.tmod b := by
    have := Int.lt_tmod_of_pos a (show 0 < b by omega)
    omega
  rw [Int.sub_bmod_bmod]
  have e2 : a - (a - a.tmod b) = a.tmod b := by omega
  rw [e2]
  exact Int.bmod_eq_of_le (by omega) (by omega)
theorem tmod_pos {z : Int} (h : 0 ≤ z) : z.tmod 32003 = z % 32003 := Int.tmod_eq_emod_of_nonneg h
theorem tmod_emod (z : Int) : (0 ≤ z.tmod 32003 ∧ z % 32003 = z.tmod 32003) ∨ (z.tmod 32003 < 0 ∧ z % 32003 = z.tmod 32003 + 32003) := by
  have h1 := Int.tmod_add_mul_tdiv z 32003
  have h2 : z.tmod 32003 < 32003 := Int.tmod_lt_of_pos _ (by decide)
  have h3 := Int.lt_tmod_of_pos z (show (0 : Int) < 32003 by decide)
  omega
theorem X12_left_eq {N : Nat} {z : Int} {σ : mS} (h : mx z = z) : f_X12_left N z σ = some (z % 32003, σ) := by
  unfold f_X12_left
  rw [o_lrem_gen h (by decide) (by decide)]
  have h2 : z.tmod 32003 < 32003 := Int.tmod_lt_of_pos _ (by decide)
  have h3 := Int.lt_tmod_of_pos z (show (0 : Int) < 32003 by decide)
  have e1 : mw (z.tmod 32003) = z.tmod 32003 := mw_id (by omega) (by omega)
  have e2 : mw (z.tmod 32003 + 32003) = z.tmod 32003 + 32003 := mw_id (by omega) (by omega)
  rw [e1, e2]
  rcases tmod_emod z with ⟨a, b⟩ | ⟨a, b⟩
  · rw [if_pos a, b]
  · rw [if_neg (by omega), b]
theorem xor_sgn {a : Int} (h : mw a = a) : (0 ≤ o_xor a 32003) ↔ 0 ≤ a := by
  unfold o_xor
  have hb : (32003 : Int) = ((32003 : Nat) : Int) := rfl
  have key : ∀ x : Int32, (0 ≤ x.toInt) ↔ x.toBitVec.msb = false := fun x => by
    have e : x.toInt = x.toBitVec.toInt := rfl
    rw [e, BitVec.msb_eq_toInt]
    simp
  have ha : (Int32.ofInt a).toInt = a := h
  rw [key, Int32.toBitVec_xor, BitVec.msb_xor, ← ha, key, ha]
  have : (Int32.ofInt 32003).toBitVec.msb = false := by decide
  rw [this, Bool.xor_false]
theorem X11_leftOver_eq {N : Nat} {z : Int} {σ : mS} (h : mw z = z) : f_X11_leftOver N z σ = some (z % 32003, σ) := by
  unfold f_X11_leftOver f_J9_floorMod_7cf53
  have h2 : z.tmod 32003 < 32003 := Int.tmod_lt_of_pos _ (by decide)
  have h3 := Int.lt_tmod_of_pos z (show (0 : Int) < 32003 by decide)
  rw [if_pos (by decide), o_rem_gen h (by decide) (by decide)]
  by_cases q : 0 ≤ z
  · rw [if_pos ((xor_sgn h).mpr q), tmod_pos q]
    rfl
  · rw [if_neg (fun y => q ((xor_sgn h).mp y))]
    have hneg : z.tmod 32003 ≤ 0 := by
      have := Int.tmod_nonneg 32003 (show 0 ≤ -z by omega)
      rw [Int.neg_tmod] at this
      omega
    by_cases q2 : z.tmod 32003 = 0
    · rw [if_pos q2, q2, Option.bind_some]
      refine congrArg (fun x => some (x, σ)) ?_
      rcases tmod_emod z with ⟨a, b⟩ | ⟨a, b⟩ <;> omega
    · rw [if_neg q2, mw_id (by omega) (by omega), Option.bind_some]
      refine congrArg (fun x => some (x, σ)) ?_
      rcases tmod_emod z with ⟨a, b⟩ | ⟨a, b⟩ <;> omega
theorem md_lt (z : Int) : 0 ≤ z % 32003 ∧ z % 32003 < 32003 := ⟨Int.emod_nonneg _ (by decide), Int.emod_lt_of_pos _ (by decide)⟩
theorem rem_md {z : Int} (h : 0 ≤ z) (h2 : z < 2147483648) : o_rem (mw z) 32003 = z % 32003 := by
  rw [mw_id (by omega) h2, o_rem_eq h h2 (by decide) (by decide)]
theorem lrem_md {z : Int} (h : 0 ≤ z) (h2 : z < 9223372036854775808) : o_lrem (mx z) 32003 = z % 32003 := by
  rw [mx_id (by omega) h2, o_lrem_gen (mx_id (by omega) h2) (by decide) (by decide), tmod_pos h]
/-- a number to a power, by squares -/
def pwm : Nat → Nat → Nat → Nat → Nat
  | 0, _, r, _ => r
  | f + 1, e, r, b => if e = 0 then r else pwm f (e / 2) (if e % 2 = 1 then r * b % 32003 else r) (b * b % 32003)
theorem pwm_s (f e r b : Nat) : pwm (f + 1) e r b = if e = 0 then r else pwm f (e / 2) (if e % 2 = 1 then r * b % 32003 else r) (b * b % 32003) := rfl
def iv (v : Nat) : Nat := pwm 15 32001 1 v
theorem pwm_lt : ∀ f e r b, r < 32003 → pwm f e r b < 32003
  | 0, _, _, _, h => h
  | f + 1, e, r, b, h => by
    rw [pwm_s]
    split
    · exact h
    · refine pwm_lt f _ _ _ ?_
      split
      · exact Nat.mod_lt _ (by decide)
      · exact h
theorem iv_lt (v : Nat) : iv v < 32003 := pwm_lt _ _ _ _ (by decide)
theorem and_one {e : Nat} (h : e < 2147483648) : (o_and (e : Int) 1 = 1) ↔ e % 2 = 1 := by
  unfold o_and
  have h1 : Int32.ofInt (e : Int) = Int32.ofNat e := rfl
  have e1 : (Int32.ofInt (e : Int) &&& Int32.ofInt 1).toInt = ((e % 2 : Nat) : Int) := by
    show (BitVec.ofInt 32 (e : Int) &&& BitVec.ofInt 32 1).toInt = _
    have : (BitVec.ofInt 32 (e : Int) &&& BitVec.ofInt 32 1) = BitVec.ofNat 32 (e % 2) := by
      apply BitVec.eq_of_toNat_eq
      rw [BitVec.toNat_and]
      simp only [BitVec.toNat_ofInt, BitVec.toNat_ofNat]
      have a1 : ((e : Int) % ((2 : Int) ^ 32)).toNat = e := by omega
      have a2 : ((1 : Int) % ((2 : Int) ^ 32)).toNat = 1 := by decide
      simp only [Int.natCast_pow, Int.cast_ofNat_Int] at *
      rw [a1, a2, Nat.and_one_is_mod]
      omega
    rw [this]
    have h2 : e % 2 = 0 ∨ e % 2 = 1 := by omega
    rcases h2 with h2 | h2 <;> rw [h2] <;> rfl
  rw [e1]
  omega
theorem shr_one {e : Nat} (h : e < 2147483648) : o_shr (e : Int) 1 = ((e / 2 : Nat) : Int) := by
  unfold o_shr
  have hs : (Int32.ofInt 1 &&& 31) = 1 := by decide
  rw [hs]
  have h1 : (Int32.ofInt (e : Int)).toInt = (e : Int) := Int32.toInt_ofInt_of_le (by omega) (by omega)
  have : (Int32.ofInt (e : Int) >>> (1 : Int32)).toInt = (Int32.ofInt (e : Int)).toInt >>> 1 := by
    show ((Int32.ofInt (e : Int)).toBitVec.sshiftRight' _).toInt = _
    rw [BitVec.toInt_sshiftRight']
    rfl
  rw [this, h1, Int.shiftRight_eq_div_pow]
  omega
