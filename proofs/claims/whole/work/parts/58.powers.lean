/-! POWERS and their numbers; what a turn makes of them -/
def pwl : List (Nat × Nat × Nat) := (List.range 9).flatMap fun d => (List.range (d + 1)).flatMap fun r => (List.range (r + 1)).map fun k => (d - r, r - k, k)
def pI (x : Nat) : Nat := (pwl.getD x (0, 0, 0)).1
def pJ (x : Nat) : Nat := (pwl.getD x (0, 0, 0)).2.1
def pK (x : Nat) : Nat := (pwl.getD x (0, 0, 0)).2.2
def pD (x : Nat) : Nat := pI x + pJ x + pK x
def ixn (i j k : Nat) : Nat := (i + (j + k)) * (i + (j + k) + 1) * (i + (j + k) + 2) / 6 + (j + k) * (j + k + 1) / 2 + k
/-- the reference's number -/
def ax (x : Nat) : Nat := 81 * pI x + 9 * pJ x + pK x
def dg (a : Nat) : Nat := a / 81 + a / 9 % 9 + a % 9
def xa (a : Nat) : Nat := ixn (a / 81) (a / 9 % 9) (a % 9)
theorem pw_1 : ∀ x ∈ List.range 165, pD x ≤ 8 ∧ ixn (pI x) (pJ x) (pK x) = x ∧ dg (ax x) = pD x ∧ xa (ax x) = x ∧ ax x < 729 := by decide +kernel
theorem pw_2 : ∀ a ∈ List.range 729, dg a ≤ 8 → xa a < 165 ∧ ax (xa a) = a := by decide +kernel
theorem pw_3 : ∀ i ∈ List.range 9, ∀ j ∈ List.range 9, ∀ k ∈ List.range 9, i + j + k ≤ 8 → ixn i j k < 165 ∧ pI (ixn i j k) = i ∧ pJ (ixn i j k) = j ∧ pK (ixn i j k) = k := by decide +kernel
theorem pD_le {x : Nat} (h : x < 165) : pD x ≤ 8 := (pw_1 x (List.mem_range.mpr h)).1
theorem ix_p {x : Nat} (h : x < 165) : ixn (pI x) (pJ x) (pK x) = x := (pw_1 x (List.mem_range.mpr h)).2.1
theorem dg_ax {x : Nat} (h : x < 165) : dg (ax x) = pD x := (pw_1 x (List.mem_range.mpr h)).2.2.1
theorem xa_ax {x : Nat} (h : x < 165) : xa (ax x) = x := (pw_1 x (List.mem_range.mpr h)).2.2.2.1
theorem ax_lt {x : Nat} (h : x < 165) : ax x < 729 := (pw_1 x (List.mem_range.mpr h)).2.2.2.2
theorem xa_lt {a : Nat} (h : a < 729) (hd : dg a ≤ 8) : xa a < 165 := (pw_2 a (List.mem_range.mpr h) hd).1
theorem ax_xa {a : Nat} (h : a < 729) (hd : dg a ≤ 8) : ax (xa a) = a := (pw_2 a (List.mem_range.mpr h) hd).2
theorem ax_inj {x y : Nat} (hx : x < 165) (hy : y < 165) (h : ax x = ax y) : x = y := by rw [← xa_ax hx, h, xa_ax hy]
theorem ixn_ok {i j k : Nat} (h : i + j + k ≤ 8) : ixn i j k < 165 ∧ pI (ixn i j k) = i ∧ pJ (ixn i j k) = j ∧ pK (ixn i j k) = k := pw_3 i (List.mem_range.mpr (by omega)) j (List.mem_range.mpr (by omega)) k (List.mem_range.mpr (by omega)) h
theorem ax_ixn {i j k : Nat} (h : i + j + k ≤ 8) : ax (ixn i j k) = 81 * i + 9 * j + k := by
  obtain ⟨-, a, b, c⟩ := ixn_ok h
  unfold ax
  rw [a, b, c]
def pe (x i : Nat) : Nat := if i = 0 then pI x else if i = 1 then pJ x else pK x
/-- of powers e, the power of letter j behind the turn -/
def tq (t : tn) (x j : Nat) : Nat := if lto t 0 = j then pe x 0 else if lto t 1 = j then pe x 1 else pe x 2
def tX (t : tn) (x : Nat) : Nat := ixn (tq t x 0) (tq t x 1) (tq t x 2)
def ts1 (t : tn) (x i : Nat) : Int := if tcd t i < 0 ∧ pe x i % 2 = 1 then -1 else 1
def tS (t : tn) (x : Nat) : Int := ts1 t x 0 * ts1 t x 1 * ts1 t x 2
theorem tX_1 : ∀ t ∈ allT, ∀ x ∈ List.range 165, tX t x < 165 ∧ pD (tX t x) = pD x ∧ tX (tiv t) (tX t x) = x ∧ tS (tiv t) (tX t x) = tS t x := by decide +kernel
theorem tX_0 : ∀ x ∈ List.range 165, tX tid x = x ∧ tS tid x = 1 := by decide +kernel
theorem tX_lt {t : tn} {x : Nat} (ht : tok t) (h : x < 165) : tX t x < 165 := (tX_1 t (tok_mem.mp ht) x (List.mem_range.mpr h)).1
theorem tX_d {t : tn} {x : Nat} (ht : tok t) (h : x < 165) : pD (tX t x) = pD x := (tX_1 t (tok_mem.mp ht) x (List.mem_range.mpr h)).2.1
theorem tX_v {t : tn} {x : Nat} (ht : tok t) (h : x < 165) : tX (tiv t) (tX t x) = x := (tX_1 t (tok_mem.mp ht) x (List.mem_range.mpr h)).2.2.1
theorem tS_v {t : tn} {x : Nat} (ht : tok t) (h : x < 165) : tS (tiv t) (tX t x) = tS t x := (tX_1 t (tok_mem.mp ht) x (List.mem_range.mpr h)).2.2.2
theorem tX_inj {t : tn} {x y : Nat} (ht : tok t) (hx : x < 165) (hy : y < 165) (h : tX t x = tX t y) : x = y := by rw [← tX_v ht hx, h, tX_v ht hy]
theorem ts1_pm (t : tn) (x i : Nat) : ts1 t x i = 1 ∨ ts1 t x i = -1 := by unfold ts1; split <;> simp
theorem tS_pm (t : tn) (x : Nat) : tS t x = 1 ∨ tS t x = -1 := by
  unfold tS
  rcases ts1_pm t x 0 with a | a <;> rcases ts1_pm t x 1 with b | b <;> rcases ts1_pm t x 2 with c | c <;> rw [a, b, c] <;> decide
theorem tq_sum {t : tn} {x : Nat} (ht : tok t) (h : x < 165) : tq t x 0 + tq t x 1 + tq t x 2 ≤ 8 := by
  have h2 := pD_le h
  have l0 := lto_lt ht 0
  have l1 := lto_lt ht 1
  have l2 := lto_lt ht 2
  have hn : lto t 0 ≠ lto t 1 ∧ lto t 0 ≠ lto t 2 ∧ lto t 1 ≠ lto t 2 := by
    have : ∀ t ∈ allT, lto t 0 ≠ lto t 1 ∧ lto t 0 ≠ lto t 2 ∧ lto t 1 ≠ lto t 2 := by decide +kernel
    exact this t (tok_mem.mp ht)
  unfold pD at h2
  have e0 : pe x 0 = pI x := rfl
  have e1 : pe x 1 = pJ x := rfl
  have e2 : pe x 2 = pK x := rfl
  unfold tq
  rw [e0, e1, e2]
  have a0 : lto t 0 = 0 ∨ lto t 0 = 1 ∨ lto t 0 = 2 := by omega
  have a1 : lto t 1 = 0 ∨ lto t 1 = 1 ∨ lto t 1 = 2 := by omega
  rcases a0 with a0 | a0 | a0 <;> rcases a1 with a1 | a1 | a1 <;> simp [a0, a1] at * <;> omega
theorem lto_all {t : tn} (ht : tok t) {j : Nat} (hj : j < 3) : ∃ i, i < 3 ∧ lto t i = j := by
  have : ∀ t ∈ allT, ∀ j ∈ [0, 1, 2], ∃ i ∈ [0, 1, 2], lto t i = j := by decide +kernel
  obtain ⟨i, h1, h2⟩ := this t (tok_mem.mp ht) j (m012 hj)
  refine ⟨i, ?_, h2⟩
  simp at h1
  omega
theorem tq_lto {t : tn} (ht : tok t) (x : Nat) {i : Nat} (hi : i < 3) : tq t x (lto t i) = pe x i := by
  have hn : lto t 0 ≠ lto t 1 ∧ lto t 0 ≠ lto t 2 ∧ lto t 1 ≠ lto t 2 := by
    have : ∀ t ∈ allT, lto t 0 ≠ lto t 1 ∧ lto t 0 ≠ lto t 2 ∧ lto t 1 ≠ lto t 2 := by decide +kernel
    exact this t (tok_mem.mp ht)
  unfold tq
  have : i = 0 ∨ i = 1 ∨ i = 2 := by omega
  rcases this with rfl | rfl | rfl
  · rw [if_pos rfl]
  · rw [if_neg hn.1, if_pos rfl]
  · rw [if_neg hn.2.1, if_neg hn.2.2]
theorem pe_tX {t : tn} {x j : Nat} (ht : tok t) (h : x < 165) (hj : j < 3) : pe (tX t x) j = tq t x j := by
  obtain ⟨-, a, b, c⟩ := ixn_ok (tq_sum ht h)
  unfold tX pe
  have : j = 0 ∨ j = 1 ∨ j = 2 := by omega
  rcases this with rfl | rfl | rfl
  · rw [if_pos rfl]; exact a
  · rw [if_neg (by decide), if_pos rfl]; exact b
  · rw [if_neg (by decide), if_neg (by decide)]; exact c
theorem lto_co : ∀ a ∈ allT, ∀ b ∈ allT, ∀ i ∈ [0, 1, 2], lto (tco a b) i = lto b (lto a i) := by decide +kernel
/-- one behind the other -/
theorem tX_co {a b : tn} {x : Nat} (ha : tok a) (hb : tok b) (h : x < 165) : tX (tco a b) x = tX b (tX a x) := by
  have hab := tco_ok ha hb
  have key : ∀ j, j < 3 → tq (tco a b) x j = tq b (tX a x) j := by
    intro j hj
    obtain ⟨i, hi, ei⟩ := lto_all hab hj
    rw [← ei, tq_lto hab x hi, lto_co a (tok_mem.mp ha) b (tok_mem.mp hb) i (m012 hi), tq_lto hb _ (lto_lt ha i), pe_tX ha h (lto_lt ha i), tq_lto ha x hi]
  have k0 := key 0 (by decide)
  have k1 := key 1 (by decide)
  have k2 := key 2 (by decide)
  unfold tX at *
  rw [k0, k1, k2]
def sgb (c : Int) (p : Nat) : Int := if c < 0 ∧ p = 1 then -1 else 1
theorem sg_co : ∀ a ∈ allT, ∀ b ∈ allT, ∀ p0 ∈ [0, 1], ∀ p1 ∈ [0, 1], ∀ p2 ∈ [0, 1], sgb (tcd (tco a b) 0) p0 * sgb (tcd (tco a b) 1) p1 * sgb (tcd (tco a b) 2) p2 = sgb (tcd a 0) p0 * sgb (tcd a 1) p1 * sgb (tcd a 2) p2 * (sgb (tcd b 0) (if lto a 0 = 0 then p0 else if lto a 1 = 0 then p1 else p2) * sgb (tcd b 1) (if lto a 0 = 1 then p0 else if lto a 1 = 1 then p1 else p2) * sgb (tcd b 2) (if lto a 0 = 2 then p0 else if lto a 1 = 2 then p1 else p2)) := by decide +kernel
theorem ts1_sgb (t : tn) (x i : Nat) : ts1 t x i = sgb (tcd t i) (pe x i % 2) := rfl
theorem tS_co {a b : tn} {x : Nat} (ha : tok a) (hb : tok b) (h : x < 165) : tS (tco a b) x = tS a x * tS b (tX a x) := by
  have hm : ∀ n : Nat, n % 2 ∈ [0, 1] := fun n => by have : n % 2 = 0 ∨ n % 2 = 1 := by omega
                                                     rcases this with e | e <;> rw [e] <;> decide
  have key := sg_co a (tok_mem.mp ha) b (tok_mem.mp hb) (pe x 0 % 2) (hm _) (pe x 1 % 2) (hm _) (pe x 2 % 2) (hm _)
  have q : ∀ j, j < 3 → pe (tX a x) j % 2 = if lto a 0 = j then pe x 0 % 2 else if lto a 1 = j then pe x 1 % 2 else pe x 2 % 2 := by
    intro j hj
    rw [pe_tX ha h hj]
    unfold tq
    split
    · rfl
    · split <;> rfl
  unfold tS
  rw [ts1_sgb, ts1_sgb, ts1_sgb, ts1_sgb, ts1_sgb, ts1_sgb, ts1_sgb, ts1_sgb, ts1_sgb, q 0 (by decide), q 1 (by decide), q 2 (by decide)]
  exact key
