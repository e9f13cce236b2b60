/-! longs as sets: and, or, shifts, how many bits -/
theorem bv_nn {w : Nat} {x : BitVec w} (h : 2 * x.toNat < 2 ^ w) : x.toInt = (x.toNat : Int) := by
  rw [BitVec.toInt_eq_toNat_cond, if_pos h]
theorem bv_of {w a : Nat} (h : a < 2 ^ w) : (BitVec.ofInt w (a : Int)).toNat = a := by
  rw [BitVec.ofInt_natCast, BitVec.toNat_ofNat, Nat.mod_eq_of_lt h]
theorem land_nat {a b : Nat} (ha : a < 9223372036854775808) (hb : b < 9223372036854775808) : o_land (a : Int) (b : Int) = ((a &&& b : Nat) : Int) := by
  unfold o_land
  have hl : a &&& b ≤ a := Nat.and_le_left
  rw [← Int64.toInt_toBitVec, Int64.toBitVec_and, Int64.toBitVec_ofInt, Int64.toBitVec_ofInt]
  have e : (BitVec.ofInt 64 (a : Int) &&& BitVec.ofInt 64 (b : Int)).toNat = a &&& b := by
    rw [BitVec.toNat_and, bv_of (by omega), bv_of (by omega)]
  rw [bv_nn (by rw [e]; omega), e]
theorem lor_nat {a b : Nat} (ha : a < 4611686018427387904) (hb : b < 4611686018427387904) : o_lor (a : Int) (b : Int) = ((a ||| b : Nat) : Int) := by
  unfold o_lor
  have hl : a ||| b < 2 ^ 62 := Nat.or_lt_two_pow ha hb
  rw [← Int64.toInt_toBitVec, Int64.toBitVec_or, Int64.toBitVec_ofInt, Int64.toBitVec_ofInt]
  have e : (BitVec.ofInt 64 (a : Int) ||| BitVec.ofInt 64 (b : Int)).toNat = a ||| b := by
    rw [BitVec.toNat_or, bv_of (by omega), bv_of (by omega)]
  rw [bv_nn (by rw [e]; omega), e]
theorem and_nat {a b : Nat} (ha : a < 2147483648) (hb : b < 2147483648) : o_and (a : Int) (b : Int) = ((a &&& b : Nat) : Int) := by
  unfold o_and
  have hl : a &&& b ≤ a := Nat.and_le_left
  rw [← Int32.toInt_toBitVec, Int32.toBitVec_and, Int32.toBitVec_ofInt, Int32.toBitVec_ofInt]
  have e : (BitVec.ofInt 32 (a : Int) &&& BitVec.ofInt 32 (b : Int)).toNat = a &&& b := by
    rw [BitVec.toNat_and, bv_of (by omega), bv_of (by omega)]
  rw [bv_nn (by rw [e]; omega), e]
theorem and127 {u : Nat} : o_and (mw (u : Int)) 127 = ((u % 128 : Nat) : Int) := by
  unfold o_and mw
  rw [Int32.ofInt_toInt, ← Int32.toInt_toBitVec, Int32.toBitVec_and, Int32.toBitVec_ofInt, Int32.toBitVec_ofInt]
  have e : (BitVec.ofInt 32 (u : Int) &&& BitVec.ofInt 32 127).toNat = u % 128 := by
    rw [BitVec.toNat_and, BitVec.ofInt_natCast, BitVec.toNat_ofNat]
    show u % 2 ^ 32 &&& (2 ^ 7 - 1) = _
    rw [Nat.and_two_pow_sub_one_eq_mod]
    omega
  rw [bv_nn (by rw [e]; omega), e]
theorem sh_mask : ∀ s ∈ List.range 64, ((Int32.ofInt ((s : Nat) : Int)).toInt64.toUInt64 &&& Int64.toUInt64 63).toBitVec.toNat = s ∧ ((Int32.ofInt ((s : Nat) : Int)).toInt64 &&& 63).toBitVec.toNat = s := by decide +kernel
theorem lushr_nat {a s : Nat} (ha : a < 9223372036854775808) (hs : s < 64) : o_lushr (a : Int) (s : Int) = ((a / 2 ^ s : Nat) : Int) := by
  unfold o_lushr
  have e1 := (sh_mask s (List.mem_range.mpr hs)).1
  have e : (((Int64.ofInt (a : Int)).toUInt64 >>> ((Int32.ofInt ((s : Nat) : Int)).toInt64.toUInt64 &&& Int64.toUInt64 63)).toInt64.toBitVec).toNat = a / 2 ^ s := by
    show ((Int64.ofInt (a : Int)).toUInt64 >>> ((Int32.ofInt ((s : Nat) : Int)).toInt64.toUInt64 &&& Int64.toUInt64 63)).toBitVec.toNat = _
    rw [UInt64.toBitVec_shiftRight]
    show (((Int64.ofInt (a : Int)).toBitVec) >>> (((Int32.ofInt ((s : Nat) : Int)).toInt64.toUInt64 &&& Int64.toUInt64 63).toBitVec % 64)).toNat = _
    rw [BitVec.ushiftRight_eq', BitVec.toNat_ushiftRight, BitVec.toNat_umod, e1, Int64.toBitVec_ofInt, bv_of (by omega), Nat.shiftRight_eq_div_pow]
    show a / 2 ^ (s % 64) = _
    rw [Nat.mod_eq_of_lt hs]
  rw [← Int64.toInt_toBitVec, bv_nn, e]
  rw [e]
  have := Nat.div_le_self a (2 ^ s)
  omega
theorem lshr_nat {a s : Nat} (ha : a < 9223372036854775808) (hs : s < 64) : o_lshr (a : Int) (s : Int) = ((a / 2 ^ s : Nat) : Int) := by
  unfold o_lshr
  have e1 := (sh_mask s (List.mem_range.mpr hs)).2
  have hm : ((Int64.ofInt (a : Int)).toBitVec).msb = false := by
    rw [Int64.toBitVec_ofInt, BitVec.msb_eq_false_iff_two_mul_lt, bv_of (by omega)]
    omega
  have e2 : ((((Int32.ofInt ((s : Nat) : Int)).toInt64 &&& 63).toBitVec.smod 64)).toNat = s := by
    have : (((Int32.ofInt ((s : Nat) : Int)).toInt64 &&& 63).toBitVec) = BitVec.ofNat 64 s := by
      apply BitVec.eq_of_toNat_eq
      rw [e1, BitVec.toNat_ofNat, Nat.mod_eq_of_lt (by omega)]
    rw [this]
    have : ∀ s ∈ List.range 64, ((BitVec.ofNat 64 s).smod 64).toNat = s := by decide +kernel
    exact this s (List.mem_range.mpr hs)
  have e : ((Int64.ofInt (a : Int) >>> ((Int32.ofInt ((s : Nat) : Int)).toInt64 &&& 63)).toBitVec).toNat = a / 2 ^ s := by
    rw [Int64.toBitVec_shiftRight, BitVec.sshiftRight_eq', BitVec.sshiftRight_eq_of_msb_false hm, BitVec.toNat_ushiftRight, e2, Int64.toBitVec_ofInt, bv_of (by omega), Nat.shiftRight_eq_div_pow]
  rw [← Int64.toInt_toBitVec, bv_nn, e]
  rw [e]
  have := Nat.div_le_self a (2 ^ s)
  omega
theorem lshl_nat : ∀ s ∈ List.range 48, o_lshl 1 ((s : Nat) : Int) = ((2 ^ s : Nat) : Int) := by decide +kernel
theorem land_b {a b c d : Nat} (hb : b < 256) (hd : d < 256) : (256 * a + b) &&& (256 * c + d) = 256 * (a &&& c) + (b &&& d) := by
  have h1 : ((256 * a + b) &&& (256 * c + d)) / 2 ^ 8 = (256 * a + b) / 2 ^ 8 &&& (256 * c + d) / 2 ^ 8 := Nat.and_div_two_pow
  have h2 : ((256 * a + b) &&& (256 * c + d)) % 2 ^ 8 = (256 * a + b) % 2 ^ 8 &&& (256 * c + d) % 2 ^ 8 := Nat.and_mod_two_pow
  rw [show (256 * a + b) / 2 ^ 8 = a from by omega, show (256 * c + d) / 2 ^ 8 = c from by omega] at h1
  rw [show (256 * a + b) % 2 ^ 8 = b from by omega, show (256 * c + d) % 2 ^ 8 = d from by omega] at h2
  omega
def Mk (m : Nat) : Nat → Nat
  | 0 => 0
  | j + 1 => 256 * Mk m j + m
def pcb (b : Nat) : Nat := b % 2 + b / 2 % 2 + b / 4 % 2 + b / 8 % 2 + b / 16 % 2 + b / 32 % 2 + b / 64 % 2 + b / 128 % 2
def st1 (x j : Nat) : Nat := x - (x / 2 &&& Mk 85 j)
def st2 (x j : Nat) : Nat := (x &&& Mk 51 j) + (x / 4 &&& Mk 51 j)
def st3 (x j : Nat) : Nat := (x + x / 16) &&& Mk 15 j
/-- bytes -/
def byt (f : Nat → Nat) : List Nat → Nat
  | [] => 0
  | b :: l => 256 * byt f l + f b
def s1b (b : Nat) : Nat := b - (b / 2 &&& 85)
def s2b (b : Nat) : Nat := (s1b b &&& 51) + (s1b b / 4 &&& 51)
theorem s_ok : ∀ b ∈ List.range 256, s1b b < 256 ∧ (b / 2 &&& 85) ≤ b ∧ s2b b ≤ 68 ∧ s2b b % 16 ≤ 4 ∧ ((s2b b + s2b b / 16) % 16) = pcb b ∧ pcb b ≤ 8 := by decide +kernel
theorem m85 : ∀ b ∈ List.range 256, ∀ c ∈ List.range 2, ((b / 2 + 128 * c) &&& 85) = (b / 2 &&& 85) := by decide +kernel
theorem m51 : ∀ b ∈ List.range 256, ∀ c ∈ List.range 4, ((b / 4 + 64 * c) &&& 51) = (b / 4 &&& 51) := by decide +kernel
theorem m15 : ∀ b ∈ List.range 256, (b &&& 15) = b % 16 := by decide +kernel
theorem st1_ok : ∀ l : List Nat, (∀ b ∈ l, b < 256) → st1 (byt id l) l.length = byt s1b l ∧ (byt id l / 2 &&& Mk 85 l.length) ≤ byt id l
  | [], _ => ⟨rfl, Nat.le_refl _⟩
  | b :: l, h => by
    obtain ⟨i1, i2⟩ := st1_ok l (fun c hc => h c (List.mem_cons_of_mem _ hc))
    have hb := h b List.mem_cons_self
    obtain ⟨a1, a2, -⟩ := s_ok b (List.mem_range.mpr hb)
    have hm := m85 b (List.mem_range.mpr hb) (byt id l % 2) (List.mem_range.mpr (by omega))
    have e1 : (256 * byt id l + b) / 2 = 256 * (byt id l / 2) + (b / 2 + 128 * (byt id l % 2)) := by omega
    have e2 : (256 * byt id l + b) / 2 &&& Mk 85 (l.length + 1) = 256 * (byt id l / 2 &&& Mk 85 l.length) + (b / 2 &&& 85) := by
      rw [e1]
      show (256 * (byt id l / 2) + (b / 2 + 128 * (byt id l % 2))) &&& (256 * Mk 85 l.length + 85) = _
      rw [land_b (by omega) (by omega), hm]
    refine ⟨?_, ?_⟩
    · show (256 * byt id l + b) - ((256 * byt id l + b) / 2 &&& Mk 85 (l.length + 1)) = 256 * byt s1b l + s1b b
      rw [e2]
      unfold st1 at i1
      unfold s1b at *
      omega
    · show (256 * byt id l + b) / 2 &&& Mk 85 (l.length + 1) ≤ 256 * byt id l + b
      rw [e2]
      omega
theorem st2_ok : ∀ l : List Nat, (∀ b ∈ l, b < 256) → st2 (byt s1b l) l.length = byt s2b l
  | [], _ => rfl
  | b :: l, h => by
    have i1 := st2_ok l (fun c hc => h c (List.mem_cons_of_mem _ hc))
    have hb := h b List.mem_cons_self
    obtain ⟨a1, a2, -⟩ := s_ok b (List.mem_range.mpr hb)
    have hm := m51 (s1b b) (List.mem_range.mpr a1) (byt s1b l % 4) (List.mem_range.mpr (by omega))
    have e1 : (256 * byt s1b l + s1b b) / 4 = 256 * (byt s1b l / 4) + (s1b b / 4 + 64 * (byt s1b l % 4)) := by omega
    show ((256 * byt s1b l + s1b b) &&& (256 * Mk 51 l.length + 51)) + ((256 * byt s1b l + s1b b) / 4 &&& (256 * Mk 51 l.length + 51)) = 256 * byt s2b l + s2b b
    rw [e1, land_b (by omega) (by omega), land_b (by omega) (by omega), hm]
    unfold st2 at i1
    unfold s2b at *
    omega
theorem byt_16 : ∀ l : List Nat, (∀ b ∈ l, b < 256) → byt s2b l % 16 ≤ 4
  | [], _ => by decide
  | b :: l, h => by
    have hb := h b List.mem_cons_self
    obtain ⟨-, -, -, a4, -⟩ := s_ok b (List.mem_range.mpr hb)
    show (256 * byt s2b l + s2b b) % 16 ≤ 4
    omega
theorem st3_ok : ∀ l : List Nat, (∀ b ∈ l, b < 256) → st3 (byt s2b l) l.length = byt pcb l
  | [], _ => rfl
  | b :: l, h => by
    have hl := fun c hc => h c (List.mem_cons_of_mem _ hc)
    have i1 := st3_ok l hl
    have i2 := byt_16 l hl
    have hb := h b List.mem_cons_self
    obtain ⟨-, -, a3, a4, a5, -⟩ := s_ok b (List.mem_range.mpr hb)
    have e1 : (256 * byt s2b l + s2b b) + (256 * byt s2b l + s2b b) / 16 = 256 * (byt s2b l + byt s2b l / 16) + (s2b b + s2b b / 16 + 16 * (byt s2b l % 16)) := by omega
    show ((256 * byt s2b l + s2b b) + (256 * byt s2b l + s2b b) / 16) &&& (256 * Mk 15 l.length + 15) = 256 * byt pcb l + pcb b
    rw [e1, land_b (by omega) (by omega), m15 _ (List.mem_range.mpr (by omega))]
    unfold st3 at i1
    omega
theorem ct_add (p : Nat → Bool) (m : Nat) : ∀ n, ct p (m + n) = ct p m + ct (fun k => p (m + k)) n
  | 0 => rfl
  | n + 1 => by
    rw [← Nat.add_assoc, ct_s, ct_s, ct_add p m n]
    omega
theorem ct_8 (y : Nat) : ct (fun k => y.testBit k) 8 = pcb (y % 256) := by
  have h : ∀ k c : Nat, (if decide (y / 2 ^ k % 2 = 1) = true then 1 else 0) = y / 2 ^ k % 2 := fun k _ => by
    by_cases q : y / 2 ^ k % 2 = 1
    · rw [if_pos (by simp [q]), q]
    · rw [if_neg (by simp [q])]; omega
  simp only [ct, Nat.testBit_eq_decide_div_mod_eq, h _ 0]
  unfold pcb
  omega
def bc (x : Nat) : Nat := ct (fun k => x.testBit k) 48
theorem bc_8 (x : Nat) : bc x = pcb (x % 256) + pcb (x / 256 % 256) + pcb (x / 65536 % 256) + pcb (x / 16777216 % 256) + pcb (x / 4294967296 % 256) + pcb (x / 1099511627776 % 256) := by
  unfold bc
  have e : ∀ i, ct (fun k => x.testBit (i + k)) 8 = pcb (x / 2 ^ i % 256) := fun i => by
    rw [← ct_8]
    exact ct_cg 8 (fun k _ => by rw [Nat.testBit_div_two_pow, Nat.add_comm])
  rw [show 48 = 40 + 8 from rfl, ct_add, show 40 = 32 + 8 from rfl, ct_add, show 32 = 24 + 8 from rfl, ct_add, show 24 = 16 + 8 from rfl, ct_add, show 16 = 8 + 8 from rfl, ct_add, ct_8, e, e, e, e, e]
theorem J13_eq {N x : Nat} {σ : mS} (hx : x < 281474976710656) : f_J13_bitCount_95d88 N (x : Int) σ = some ((bc x : Int), σ) := by
  have hl : ∃ l : List Nat, l = [x % 256, x / 256 % 256, x / 65536 % 256, x / 16777216 % 256, x / 4294967296 % 256, x / 1099511627776 % 256, 0, 0] := ⟨_, rfl⟩
  obtain ⟨l, hl⟩ := hl
  have h256 : ∀ b ∈ l, b < 256 := by
    intro b hb
    rw [hl] at hb
    simp only [List.mem_cons, List.not_mem_nil, or_false] at hb
    omega
  have hlen : l.length = 8 := by rw [hl]; rfl
  have hid : byt id l = x := by
    rw [hl]
    simp only [byt, id]
    omega
  obtain ⟨a1, a2⟩ := st1_ok l h256
  have a3 := st2_ok l h256
  have a4 := st3_ok l h256
  rw [hid, hlen] at a1 a2
  rw [hlen] at a3 a4
  have hp : ∀ b, b < 256 → s2b b ≤ 68 ∧ pcb b ≤ 8 := fun b hb => ⟨(s_ok b (List.mem_range.mpr hb)).2.2.1, (s_ok b (List.mem_range.mpr hb)).2.2.2.2.2⟩
  have q0 := hp (x % 256) (by omega)
  have q1 := hp (x / 256 % 256) (by omega)
  have q2 := hp (x / 65536 % 256) (by omega)
  have q3 := hp (x / 16777216 % 256) (by omega)
  have q4 := hp (x / 4294967296 % 256) (by omega)
  have q5 := hp (x / 1099511627776 % 256) (by omega)
  have b2 : byt s2b l < 281474976710656 := by
    rw [hl]
    simp only [byt]
    rw [show s2b 0 = 0 from by decide]
    omega
  have e3 : byt pcb l = pcb (x % 256) + 256 * pcb (x / 256 % 256) + 65536 * pcb (x / 65536 % 256) + 16777216 * pcb (x / 16777216 % 256) + 4294967296 * pcb (x / 4294967296 % 256) + 1099511627776 * pcb (x / 1099511627776 % 256) := by
    rw [hl]
    simp only [byt]
    rw [show pcb 0 = 0 from by decide]
    omega
  have b1 : byt s1b l ≤ x := by rw [← a1]; unfold st1; omega
  have n1 : o_land (o_lushr (x : Int) 1) 6148914691236517205 = ((x / 2 &&& Mk 85 8 : Nat) : Int) := by
    rw [show (1 : Int) = ((1 : Nat) : Int) from rfl, lushr_nat (by omega) (by omega), show (6148914691236517205 : Int) = ((Mk 85 8 : Nat) : Int) from by decide +kernel, land_nat (by have : x / 2 ^ 1 = x / 2 := rfl; omega) (by decide +kernel)]
  have n2 : mx ((x : Int) - ((x / 2 &&& Mk 85 8 : Nat) : Int)) = ((byt s1b l : Nat) : Int) := by
    rw [← a1]
    unfold st1
    rw [mx_small (by omega) (by omega), Int.ofNat_sub a2]
  have n3 : mx (o_land ((byt s1b l : Nat) : Int) 3689348814741910323 + o_land (o_lushr ((byt s1b l : Nat) : Int) 2) 3689348814741910323) = ((byt s2b l : Nat) : Int) := by
    have k : byt s1b l / 2 ^ 2 = byt s1b l / 4 := rfl
    rw [show (2 : Int) = ((2 : Nat) : Int) from rfl, lushr_nat (by omega) (by omega), show (3689348814741910323 : Int) = ((Mk 51 8 : Nat) : Int) from by decide +kernel, land_nat (by omega) (by decide +kernel), land_nat (by omega) (by decide +kernel), ← a3]
    unfold st2
    rw [k]
    have u1 : (byt s1b l &&& Mk 51 8) ≤ byt s1b l := Nat.and_le_left
    have u2 : (byt s1b l / 4 &&& Mk 51 8) ≤ byt s1b l / 4 := Nat.and_le_left
    rw [mx_small (by omega) (by omega)]
    omega
  have n4 : o_land (mx (((byt s2b l : Nat) : Int) + o_lushr ((byt s2b l : Nat) : Int) 4)) 1085102592571150095 = ((byt pcb l : Nat) : Int) := by
    have k : byt s2b l / 2 ^ 4 = byt s2b l / 16 := rfl
    rw [show (4 : Int) = ((4 : Nat) : Int) from rfl, lushr_nat (by omega) (by omega), k, mx_small (by omega) (by omega), show ((byt s2b l : Nat) : Int) + ((byt s2b l / 16 : Nat) : Int) = ((byt s2b l + byt s2b l / 16 : Nat) : Int) from by omega, show (1085102592571150095 : Int) = ((Mk 15 8 : Nat) : Int) from by decide +kernel, land_nat (by omega) (by decide +kernel), ← a4]
    rfl
  unfold f_J13_bitCount_95d88
  rw [n1, n2, n3, n4, bc_8]
  generalize pcb (x % 256) = p0 at *
  generalize pcb (x / 256 % 256) = p1 at *
  generalize pcb (x / 65536 % 256) = p2 at *
  generalize pcb (x / 16777216 % 256) = p3 at *
  generalize pcb (x / 4294967296 % 256) = p4 at *
  generalize pcb (x / 1099511627776 % 256) = p5 at *
  rw [e3]
  generalize hz : p0 + 256 * p1 + 65536 * p2 + 16777216 * p3 + 4294967296 * p4 + 1099511627776 * p5 = z
  have y1 : mx ((z : Int) + o_lushr (z : Int) 8) = ((z + z / 256 : Nat) : Int) := by
    rw [show (8 : Int) = ((8 : Nat) : Int) from rfl, lushr_nat (by omega) (by omega), mx_small (by have : z / 2 ^ 8 = z / 256 := rfl; omega) (by have : z / 2 ^ 8 = z / 256 := rfl; omega)]
    show (z : Int) + ((z / 256 : Nat) : Int) = _
    omega
  rw [y1]
  generalize hw : z + z / 256 = w
  have y2 : mx ((w : Int) + o_lushr (w : Int) 16) = ((w + w / 65536 : Nat) : Int) := by
    rw [show (16 : Int) = ((16 : Nat) : Int) from rfl, lushr_nat (by omega) (by omega), mx_small (by have : w / 2 ^ 16 = w / 65536 := rfl; omega) (by have : w / 2 ^ 16 = w / 65536 := rfl; omega)]
    show (w : Int) + ((w / 65536 : Nat) : Int) = _
    omega
  rw [y2]
  generalize hv : w + w / 65536 = v
  have y3 : mx ((v : Int) + o_lushr (v : Int) 32) = ((v + v / 4294967296 : Nat) : Int) := by
    rw [show (32 : Int) = ((32 : Nat) : Int) from rfl, lushr_nat (by omega) (by omega), mx_small (by have : v / 2 ^ 32 = v / 4294967296 := rfl; omega) (by have : v / 2 ^ 32 = v / 4294967296 := rfl; omega)]
    show (v : Int) + ((v / 4294967296 : Nat) : Int) = _
    omega
  rw [y3]
  generalize hu : v + v / 4294967296 = u
  rw [and127]
  refine congrArg some ?_
  have z1 : z / 256 = p1 + 256 * p2 + 65536 * p3 + 16777216 * p4 + 4294967296 * p5 := by omega
  have w1 : w / 65536 = (p2 + p3) + 256 * (p3 + p4) + 65536 * (p4 + p5) + 16777216 * p5 := by omega
  have v1 : v / 4294967296 = (p4 + p5) + 256 * p5 := by omega
  have : u % 128 = p0 + p1 + p2 + p3 + p4 + p5 := by omega
  rw [this]
