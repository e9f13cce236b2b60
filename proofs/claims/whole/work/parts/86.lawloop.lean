/-! the law's loop: every call is answered alike -/
theorem mfix_C {σ s : mS} (h : okC σ s) : mfix G0 σ s = s := by
  funext r i k
  unfold mfix
  by_cases e : gk G0 r = 4
  · rw [if_pos e]
    refine (h r i k ?_).symm
    by_cases q : 70 < r
    · exact q
    · have : ∀ r ∈ List.range 71, ¬ gk G0 r = 4 := by decide +kernel
      exact absurd e (this r (List.mem_range.mpr (by omega)))
  · rw [if_neg e]
theorem mfix_R {σ s : mS} (h : okR σ s) : mfix G0 σ s = s := by
  funext r i k
  unfold mfix
  by_cases e : gk G0 r = 4
  · rw [if_pos e]
    refine (h r i k ?_).symm
    by_cases q : r < 71 ∨ 98 < r
    · exact q
    · have : ∀ r ∈ List.range 28, ¬ gk G0 (71 + r) = 4 := by decide +kernel
      have := this (r - 71) (List.mem_range.mpr (by omega))
      rw [show 71 + (r - 71) = r from by omega] at this
      exact absurd e this
  · rw [if_neg e]
/-- the script's ints -/
def SCr (σ : mS) (y : Nat) : Prop := ∀ k, k < y → mw (σ 99 y k) = σ 99 y k
theorem SIM_go {A B : mS → Option (Int × mS)} {σ : mS} {y : Nat} (h : SIM A B) (hI : INV σ) (hS : SCr σ y) : ∃ v s s', A σ = some (v, s) ∧ mfix G0 σ s = s ∧ (∀ k, s 99 y k = σ 99 y k) ∧ B s = some (v, s') ∧ mfix G0 s s' = s' ∧ INV s' ∧ SCr s' y := by
  obtain ⟨v, s, s', a, b, c, d, e⟩ := h σ hI
  exact ⟨v, s, s', a, mfix_C b, fun k => b 99 y k (by omega), c, mfix_R d, e, fun k hk => by rw [d 99 y k (by omega), b 99 y k (by omega)]; exact hS k hk⟩
theorem law_step {N n y : Nat} {x : Nat} {σ : mS} (hN : 1000 ≤ N) (hy : y ≤ 3072) (hx : x + 6 ≤ y) (hI : INV σ) (hS : SCr σ y) : ∃ s, L_L_law_18 N (n + 1) y (x : Int) σ = L_L_law_18 N n y ((x + 6 : Nat) : Int) s ∧ INV s ∧ SCr s y := by
  have m1 : mw ((x : Int) + 1) = ((x + 1 : Nat) : Int) := by rw [mw_id (by omega) (by omega)]; omega
  have m2 : mw ((x : Int) + 2) = ((x + 2 : Nat) : Int) := by rw [mw_id (by omega) (by omega)]; omega
  have m3 : mw ((x : Int) + 3) = ((x + 3 : Nat) : Int) := by rw [mw_id (by omega) (by omega)]; omega
  have m4 : mw ((x : Int) + 4) = ((x + 4 : Nat) : Int) := by rw [mw_id (by omega) (by omega)]; omega
  have m5 : mw ((x : Int) + 5) = ((x + 5 : Nat) : Int) := by rw [mw_id (by omega) (by omega)]; omega
  have m6 : mw ((x : Int) + 6) = ((x + 6 : Nat) : Int) := by rw [mw_id (by omega) (by omega)]; omega
  rw [L_L_law_18_s, mw_id (z := (y : Int) - 6) (by omega) (by omega), if_neg (by omega), if_pos (by omega), m1, m2, m3, m4, m5, m6, tN, tN, tN, tN, tN, tN]
  by_cases q0 : o_and (σ 99 y x) 31 = 0
  · obtain ⟨v, s, s', a1, a2, a3, a4, a5, a6, a7⟩ := SIM_go (y := y) (SIM_turn (N := N) (σ 99 y (x + 1)) (σ 99 y (x + 2)) (σ 99 y (x + 3)) (σ 99 y (x + 4)) ) hI hS
    rw [if_pos q0, if_pos (by omega), a1, Option.bind_some]
    try dsimp only
    rw [if_pos (by omega), a2, a3, a3, a3, a3, a4, Option.bind_some]
    try dsimp only
    rw [if_pos rfl, a5]
    exact ⟨s', rfl, a6, a7⟩
  by_cases q1 : o_and (σ 99 y x) 31 = 1
  · obtain ⟨v, s, s', a1, a2, a3, a4, a5, a6, a7⟩ := SIM_go (y := y) (SIM_drop (N := N) (σ 99 y (x + 1)) ) hI hS
    rw [if_neg q0, if_pos q1, if_pos (by omega), a1, Option.bind_some]
    try dsimp only
    rw [if_pos (by omega), a2, a3, a4, Option.bind_some]
    try dsimp only
    rw [if_pos rfl, a5]
    exact ⟨s', rfl, a6, a7⟩
  by_cases q2 : o_and (σ 99 y x) 31 = 2
  · obtain ⟨v, s, s', a1, a2, a3, a4, a5, a6, a7⟩ := SIM_go (y := y) (SIM_group (N := N) hN  ) hI hS
    rw [if_neg q0, if_neg q1, if_pos q2, a1, Option.bind_some]
    try dsimp only
    rw [a2, a4, Option.bind_some]
    try dsimp only
    rw [if_pos rfl, a5]
    exact ⟨s', rfl, a6, a7⟩
  by_cases q3 : o_and (σ 99 y x) 31 = 3
  · obtain ⟨v, s, s', a1, a2, a3, a4, a5, a6, a7⟩ := SIM_go (y := y) (SIM_about (N := N) hN (σ 99 y (x + 1)) ) hI hS
    rw [if_neg q0, if_neg q1, if_neg q2, if_pos q3, if_pos (by omega), a1, Option.bind_some]
    try dsimp only
    rw [if_pos (by omega), a2, a3, a4, Option.bind_some]
    try dsimp only
    rw [if_pos rfl, a5]
    exact ⟨s', rfl, a6, a7⟩
  by_cases q4 : o_and (σ 99 y x) 31 = 4
  · obtain ⟨v, s, s', a1, a2, a3, a4, a5, a6, a7⟩ := SIM_go (y := y) (SIM_element (N := N) (σ 99 y (x + 1)) (σ 99 y (x + 2)) ) hI hS
    rw [if_neg q0, if_neg q1, if_neg q2, if_neg q3, if_pos q4, if_pos (by omega), a1, Option.bind_some]
    try dsimp only
    rw [if_pos (by omega), a2, a3, a3, a4, Option.bind_some]
    try dsimp only
    rw [if_pos rfl, a5]
    exact ⟨s', rfl, a6, a7⟩
  by_cases q5 : o_and (σ 99 y x) 31 = 5
  · obtain ⟨v, s, s', a1, a2, a3, a4, a5, a6, a7⟩ := SIM_go (y := y) (SIM_times (N := N) hN (σ 99 y (x + 1)) (σ 99 y (x + 2)) ) hI hS
    rw [if_neg q0, if_neg q1, if_neg q2, if_neg q3, if_neg q4, if_pos q5, if_pos (by omega), a1, Option.bind_some]
    try dsimp only
    rw [if_pos (by omega), a2, a3, a3, a4, Option.bind_some]
    try dsimp only
    rw [if_pos rfl, a5]
    exact ⟨s', rfl, a6, a7⟩
  by_cases q6 : o_and (σ 99 y x) 31 = 6
  · obtain ⟨v, s, s', a1, a2, a3, a4, a5, a6, a7⟩ := SIM_go (y := y) (SIM_of (N := N) hN (σ 99 y (x + 1)) (σ 99 y (x + 2)) ) hI hS
    rw [if_neg q0, if_neg q1, if_neg q2, if_neg q3, if_neg q4, if_neg q5, if_pos q6, if_pos (by omega), a1, Option.bind_some]
    try dsimp only
    rw [if_pos (by omega), a2, a3, a3, a4, Option.bind_some]
    try dsimp only
    rw [if_pos rfl, a5]
    exact ⟨s', rfl, a6, a7⟩
  by_cases q7 : o_and (σ 99 y x) 31 = 7
  · obtain ⟨v, s, s', a1, a2, a3, a4, a5, a6, a7⟩ := SIM_go (y := y) (SIM_sign (N := N) (σ 99 y (x + 1)) (σ 99 y (x + 2)) ) hI hS
    rw [if_neg q0, if_neg q1, if_neg q2, if_neg q3, if_neg q4, if_neg q5, if_neg q6, if_pos q7, if_pos (by omega), a1, Option.bind_some]
    try dsimp only
    rw [if_pos (by omega), a2, a3, a3, a4, Option.bind_some]
    try dsimp only
    rw [if_pos rfl, a5]
    exact ⟨s', rfl, a6, a7⟩
  by_cases q8 : o_and (σ 99 y x) 31 = 8
  · obtain ⟨v, s, s', a1, a2, a3, a4, a5, a6, a7⟩ := SIM_go (y := y) (SIM_put (N := N) (σ 99 y (x + 1)) (σ 99 y (x + 2)) (σ 99 y (x + 3)) (σ 99 y (x + 4)) (σ 99 y (x + 5)) (hS (x + 5) (by omega))) hI hS
    rw [if_neg q0, if_neg q1, if_neg q2, if_neg q3, if_neg q4, if_neg q5, if_neg q6, if_neg q7, if_pos q8, if_pos (by omega), a1, Option.bind_some]
    try dsimp only
    rw [if_pos (by omega), a2, a3, a3, a3, a3, a3, a4, Option.bind_some]
    try dsimp only
    rw [if_pos rfl, a5]
    exact ⟨s', rfl, a6, a7⟩
  by_cases q9 : o_and (σ 99 y x) 31 = 9
  · obtain ⟨v, s, s', a1, a2, a3, a4, a5, a6, a7⟩ := SIM_go (y := y) (SIM_number (N := N) (σ 99 y (x + 1)) (σ 99 y (x + 2)) (σ 99 y (x + 3)) (σ 99 y (x + 4)) ) hI hS
    rw [if_neg q0, if_neg q1, if_neg q2, if_neg q3, if_neg q4, if_neg q5, if_neg q6, if_neg q7, if_neg q8, if_pos q9, if_pos (by omega), a1, Option.bind_some]
    try dsimp only
    rw [if_pos (by omega), a2, a3, a3, a3, a3, a4, Option.bind_some]
    try dsimp only
    rw [if_pos rfl, a5]
    exact ⟨s', rfl, a6, a7⟩
  by_cases q10 : o_and (σ 99 y x) 31 = 10
  · obtain ⟨v, s, s', a1, a2, a3, a4, a5, a6, a7⟩ := SIM_go (y := y) (SIM_degree (N := N) hN (σ 99 y (x + 1)) ) hI hS
    rw [if_neg q0, if_neg q1, if_neg q2, if_neg q3, if_neg q4, if_neg q5, if_neg q6, if_neg q7, if_neg q8, if_neg q9, if_pos q10, if_pos (by omega), a1, Option.bind_some]
    try dsimp only
    rw [if_pos (by omega), a2, a3, a4, Option.bind_some]
    try dsimp only
    rw [if_pos rfl, a5]
    exact ⟨s', rfl, a6, a7⟩
  by_cases q11 : o_and (σ 99 y x) 31 = 11
  · obtain ⟨v, s, s', a1, a2, a3, a4, a5, a6, a7⟩ := SIM_go (y := y) (SIM_sum (N := N) hN (σ 99 y (x + 1)) (σ 99 y (x + 2)) (σ 99 y (x + 3)) (σ 99 y (x + 4)) (σ 99 y (x + 5)) (hS (x + 3) (by omega)) (hS (x + 5) (by omega))) hI hS
    rw [if_neg q0, if_neg q1, if_neg q2, if_neg q3, if_neg q4, if_neg q5, if_neg q6, if_neg q7, if_neg q8, if_neg q9, if_neg q10, if_pos q11, if_pos (by omega), a1, Option.bind_some]
    try dsimp only
    rw [if_pos (by omega), a2, a3, a3, a3, a3, a3, a4, Option.bind_some]
    try dsimp only
    rw [if_pos rfl, a5]
    exact ⟨s', rfl, a6, a7⟩
  by_cases q12 : o_and (σ 99 y x) 31 = 12
  · obtain ⟨v, s, s', a1, a2, a3, a4, a5, a6, a7⟩ := SIM_go (y := y) (SIM_product (N := N) hN (σ 99 y (x + 1)) (σ 99 y (x + 2)) (σ 99 y (x + 3)) ) hI hS
    rw [if_neg q0, if_neg q1, if_neg q2, if_neg q3, if_neg q4, if_neg q5, if_neg q6, if_neg q7, if_neg q8, if_neg q9, if_neg q10, if_neg q11, if_pos q12, if_pos (by omega), a1, Option.bind_some]
    try dsimp only
    rw [if_pos (by omega), a2, a3, a3, a3, a4, Option.bind_some]
    try dsimp only
    rw [if_pos rfl, a5]
    exact ⟨s', rfl, a6, a7⟩
  by_cases q13 : o_and (σ 99 y x) 31 = 13
  · obtain ⟨v, s, s', a1, a2, a3, a4, a5, a6, a7⟩ := SIM_go (y := y) (SIM_turned (N := N) hN (σ 99 y (x + 1)) (σ 99 y (x + 2)) (σ 99 y (x + 3)) ) hI hS
    rw [if_neg q0, if_neg q1, if_neg q2, if_neg q3, if_neg q4, if_neg q5, if_neg q6, if_neg q7, if_neg q8, if_neg q9, if_neg q10, if_neg q11, if_neg q12, if_pos q13, if_pos (by omega), a1, Option.bind_some]
    try dsimp only
    rw [if_pos (by omega), a2, a3, a3, a3, a4, Option.bind_some]
    try dsimp only
    rw [if_pos rfl, a5]
    exact ⟨s', rfl, a6, a7⟩
  by_cases q14 : o_and (σ 99 y x) 31 = 14
  · obtain ⟨v, s, s', a1, a2, a3, a4, a5, a6, a7⟩ := SIM_go (y := y) (SIM_mean (N := N) hN (σ 99 y (x + 1)) (σ 99 y (x + 2)) (σ 99 y (x + 3)) ) hI hS
    rw [if_neg q0, if_neg q1, if_neg q2, if_neg q3, if_neg q4, if_neg q5, if_neg q6, if_neg q7, if_neg q8, if_neg q9, if_neg q10, if_neg q11, if_neg q12, if_neg q13, if_pos q14, if_pos (by omega), a1, Option.bind_some]
    try dsimp only
    rw [if_pos (by omega), a2, a3, a3, a3, a4, Option.bind_some]
    try dsimp only
    rw [if_pos rfl, a5]
    exact ⟨s', rfl, a6, a7⟩
  by_cases q15 : o_and (σ 99 y x) 31 = 15
  · obtain ⟨v, s, s', a1, a2, a3, a4, a5, a6, a7⟩ := SIM_go (y := y) (SIM_stays (N := N) hN (σ 99 y (x + 1)) (σ 99 y (x + 2)) ) hI hS
    rw [if_neg q0, if_neg q1, if_neg q2, if_neg q3, if_neg q4, if_neg q5, if_neg q6, if_neg q7, if_neg q8, if_neg q9, if_neg q10, if_neg q11, if_neg q12, if_neg q13, if_neg q14, if_pos q15, if_pos (by omega), a1, Option.bind_some]
    try dsimp only
    rw [if_pos (by omega), a2, a3, a3, a4, Option.bind_some]
    try dsimp only
    rw [if_pos rfl, a5]
    exact ⟨s', rfl, a6, a7⟩
  by_cases q16 : o_and (σ 99 y x) 31 = 16
  · obtain ⟨v, s, s', a1, a2, a3, a4, a5, a6, a7⟩ := SIM_go (y := y) (SIM_count (N := N) hN (σ 99 y (x + 1)) (σ 99 y (x + 2)) ) hI hS
    rw [if_neg q0, if_neg q1, if_neg q2, if_neg q3, if_neg q4, if_neg q5, if_neg q6, if_neg q7, if_neg q8, if_neg q9, if_neg q10, if_neg q11, if_neg q12, if_neg q13, if_neg q14, if_neg q15, if_pos q16, if_pos (by omega), a1, Option.bind_some]
    try dsimp only
    rw [if_pos (by omega), a2, a3, a3, a4, Option.bind_some]
    try dsimp only
    rw [if_pos rfl, a5]
    exact ⟨s', rfl, a6, a7⟩
  by_cases q17 : o_and (σ 99 y x) 31 = 17
  · obtain ⟨v, s, s', a1, a2, a3, a4, a5, a6, a7⟩ := SIM_go (y := y) (SIM_series (N := N) hN (σ 99 y (x + 1)) (σ 99 y (x + 2)) ) hI hS
    rw [if_neg q0, if_neg q1, if_neg q2, if_neg q3, if_neg q4, if_neg q5, if_neg q6, if_neg q7, if_neg q8, if_neg q9, if_neg q10, if_neg q11, if_neg q12, if_neg q13, if_neg q14, if_neg q15, if_neg q16, if_pos q17, if_pos (by omega), a1, Option.bind_some]
    try dsimp only
    rw [if_pos (by omega), a2, a3, a3, a4, Option.bind_some]
    try dsimp only
    rw [if_pos rfl, a5]
    exact ⟨s', rfl, a6, a7⟩
  by_cases q18 : o_and (σ 99 y x) 31 = 18
  · obtain ⟨v, s, s', a1, a2, a3, a4, a5, a6, a7⟩ := SIM_go (y := y) (SIM_few (N := N) hN (σ 99 y (x + 1)) (σ 99 y (x + 2)) ) hI hS
    rw [if_neg q0, if_neg q1, if_neg q2, if_neg q3, if_neg q4, if_neg q5, if_neg q6, if_neg q7, if_neg q8, if_neg q9, if_neg q10, if_neg q11, if_neg q12, if_neg q13, if_neg q14, if_neg q15, if_neg q16, if_neg q17, if_pos q18, if_pos (by omega), a1, Option.bind_some]
    try dsimp only
    rw [if_pos (by omega), a2, a3, a3, a4, Option.bind_some]
    try dsimp only
    rw [if_pos rfl, a5]
    exact ⟨s', rfl, a6, a7⟩
  by_cases q19 : o_and (σ 99 y x) 31 = 19
  · obtain ⟨v, s, s', a1, a2, a3, a4, a5, a6, a7⟩ := SIM_go (y := y) (SIM_laws (N := N) hN (σ 99 y (x + 1)) (σ 99 y (x + 2)) ) hI hS
    rw [if_neg q0, if_neg q1, if_neg q2, if_neg q3, if_neg q4, if_neg q5, if_neg q6, if_neg q7, if_neg q8, if_neg q9, if_neg q10, if_neg q11, if_neg q12, if_neg q13, if_neg q14, if_neg q15, if_neg q16, if_neg q17, if_neg q18, if_pos q19, if_pos (by omega), a1, Option.bind_some]
    try dsimp only
    rw [if_pos (by omega), a2, a3, a3, a4, Option.bind_some]
    try dsimp only
    rw [if_pos rfl, a5]
    exact ⟨s', rfl, a6, a7⟩
  by_cases q20 : o_and (σ 99 y x) 31 = 20
  · obtain ⟨v, s, s', a1, a2, a3, a4, a5, a6, a7⟩ := SIM_go (y := y) (SIM_made (N := N) hN (σ 99 y (x + 1)) ) hI hS
    rw [if_neg q0, if_neg q1, if_neg q2, if_neg q3, if_neg q4, if_neg q5, if_neg q6, if_neg q7, if_neg q8, if_neg q9, if_neg q10, if_neg q11, if_neg q12, if_neg q13, if_neg q14, if_neg q15, if_neg q16, if_neg q17, if_neg q18, if_neg q19, if_pos q20, if_pos (by omega), a1, Option.bind_some]
    try dsimp only
    rw [if_pos (by omega), a2, a3, a4, Option.bind_some]
    try dsimp only
    rw [if_pos rfl, a5]
    exact ⟨s', rfl, a6, a7⟩
  by_cases q21 : o_and (σ 99 y x) 31 = 21
  · obtain ⟨v, s, s', a1, a2, a3, a4, a5, a6, a7⟩ := SIM_go (y := y) (SIM_part (N := N) (σ 99 y (x + 1)) (σ 99 y (x + 2)) ) hI hS
    rw [if_neg q0, if_neg q1, if_neg q2, if_neg q3, if_neg q4, if_neg q5, if_neg q6, if_neg q7, if_neg q8, if_neg q9, if_neg q10, if_neg q11, if_neg q12, if_neg q13, if_neg q14, if_neg q15, if_neg q16, if_neg q17, if_neg q18, if_neg q19, if_neg q20, if_pos q21, if_pos (by omega), a1, Option.bind_some]
    try dsimp only
    rw [if_pos (by omega), a2, a3, a3, a4, Option.bind_some]
    try dsimp only
    rw [if_pos rfl, a5]
    exact ⟨s', rfl, a6, a7⟩
  by_cases q22 : o_and (σ 99 y x) 31 = 22
  · obtain ⟨v, s, s', a1, a2, a3, a4, a5, a6, a7⟩ := SIM_go (y := y) (SIM_value (N := N) hN (σ 99 y (x + 1)) (σ 99 y (x + 2)) (σ 99 y (x + 3)) (σ 99 y (x + 4)) (hS (x + 2) (by omega)) (hS (x + 3) (by omega)) (hS (x + 4) (by omega))) hI hS
    rw [if_neg q0, if_neg q1, if_neg q2, if_neg q3, if_neg q4, if_neg q5, if_neg q6, if_neg q7, if_neg q8, if_neg q9, if_neg q10, if_neg q11, if_neg q12, if_neg q13, if_neg q14, if_neg q15, if_neg q16, if_neg q17, if_neg q18, if_neg q19, if_neg q20, if_neg q21, if_pos q22, if_pos (by omega), a1, Option.bind_some]
    try dsimp only
    rw [if_pos (by omega), a2, a3, a3, a3, a3, a4, Option.bind_some]
    try dsimp only
    rw [if_pos rfl, a5]
    exact ⟨s', rfl, a6, a7⟩
  by_cases q23 : o_and (σ 99 y x) 31 = 23
  · obtain ⟨v, s, s', a1, a2, a3, a4, a5, a6, a7⟩ := SIM_go (y := y) (SIM_images (N := N) hN (σ 99 y (x + 1)) (σ 99 y (x + 2)) (σ 99 y (x + 3)) ) hI hS
    rw [if_neg q0, if_neg q1, if_neg q2, if_neg q3, if_neg q4, if_neg q5, if_neg q6, if_neg q7, if_neg q8, if_neg q9, if_neg q10, if_neg q11, if_neg q12, if_neg q13, if_neg q14, if_neg q15, if_neg q16, if_neg q17, if_neg q18, if_neg q19, if_neg q20, if_neg q21, if_neg q22, if_pos q23, if_pos (by omega), a1, Option.bind_some]
    try dsimp only
    rw [if_pos (by omega), a2, a3, a3, a3, a4, Option.bind_some]
    try dsimp only
    rw [if_pos rfl, a5]
    exact ⟨s', rfl, a6, a7⟩
  by_cases q24 : o_and (σ 99 y x) 31 = 24
  · obtain ⟨v, s, s', a1, a2, a3, a4, a5, a6, a7⟩ := SIM_go (y := y) (SIM_image (N := N) (σ 99 y (x + 1)) (σ 99 y (x + 2)) ) hI hS
    rw [if_neg q0, if_neg q1, if_neg q2, if_neg q3, if_neg q4, if_neg q5, if_neg q6, if_neg q7, if_neg q8, if_neg q9, if_neg q10, if_neg q11, if_neg q12, if_neg q13, if_neg q14, if_neg q15, if_neg q16, if_neg q17, if_neg q18, if_neg q19, if_neg q20, if_neg q21, if_neg q22, if_neg q23, if_pos q24, if_pos (by omega), a1, Option.bind_some]
    try dsimp only
    rw [if_pos (by omega), a2, a3, a3, a4, Option.bind_some]
    try dsimp only
    rw [if_pos rfl, a5]
    exact ⟨s', rfl, a6, a7⟩
  by_cases q25 : o_and (σ 99 y x) 31 = 25
  · obtain ⟨v, s, s', a1, a2, a3, a4, a5, a6, a7⟩ := SIM_go (y := y) (SIM_leads (N := N) hN (σ 99 y (x + 1)) (σ 99 y (x + 2)) (σ 99 y (x + 3)) ) hI hS
    rw [if_neg q0, if_neg q1, if_neg q2, if_neg q3, if_neg q4, if_neg q5, if_neg q6, if_neg q7, if_neg q8, if_neg q9, if_neg q10, if_neg q11, if_neg q12, if_neg q13, if_neg q14, if_neg q15, if_neg q16, if_neg q17, if_neg q18, if_neg q19, if_neg q20, if_neg q21, if_neg q22, if_neg q23, if_neg q24, if_pos q25, if_pos (by omega), a1, Option.bind_some]
    try dsimp only
    rw [if_pos (by omega), a2, a3, a3, a3, a4, Option.bind_some]
    try dsimp only
    rw [if_pos rfl, a5]
    exact ⟨s', rfl, a6, a7⟩
  rw [if_neg q0, if_neg q1, if_neg q2, if_neg q3, if_neg q4, if_neg q5, if_neg q6, if_neg q7, if_neg q8, if_neg q9, if_neg q10, if_neg q11, if_neg q12, if_neg q13, if_neg q14, if_neg q15, if_neg q16, if_neg q17, if_neg q18, if_neg q19, if_neg q20, if_neg q21, if_neg q22, if_neg q23, if_neg q24, if_neg q25]
  exact ⟨σ, rfl, hI, hS⟩
theorem law_all {N y : Nat} (hN : 1000 ≤ N) (hy : y ≤ 3072) : ∀ (j n x : Nat) (σ : mS), y ≤ x + 6 * j → j < n → x ≤ y + 6 → INV σ → SCr σ y → ∃ s, L_L_law_18 N n y (x : Int) σ = some (.inr s) := by
  intro j
  induction j with
  | zero =>
    intro n x σ h1 h2 h3 hI hS
    obtain ⟨n, rfl⟩ : ∃ n', n = n' + 1 := ⟨n - 1, by omega⟩
    refine ⟨σ, ?_⟩
    rw [L_L_law_18_s, mw_id (z := (y : Int) - 6) (by omega) (by omega), if_pos (by omega)]
  | succ j ih =>
    intro n x σ h1 h2 h3 hI hS
    obtain ⟨n, rfl⟩ : ∃ n', n = n' + 1 := ⟨n - 1, by omega⟩
    by_cases q : x + 6 ≤ y
    · obtain ⟨s, a, b, c⟩ := law_step (n := n) hN hy q hI hS
      obtain ⟨s', d⟩ := ih n (x + 6) s (by omega) (by omega) (by omega) b c
      exact ⟨s', a.trans d⟩
    · refine ⟨σ, ?_⟩
      rw [L_L_law_18_s, mw_id (z := (y : Int) - 6) (by omega) (by omega), if_pos (by omega)]
