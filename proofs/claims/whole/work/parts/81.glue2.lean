/-! both sides: element, times, of, sign, number, degree, part, image, stays, count, series, value, leads -/
theorem SIM_s {A B : mS → Option (Int × mS)} (R R' K' : List Nat) (h1 : ∀ r, r ∈ R → r ≤ 70 ∧ r ∉ cRg) (h2 : ∀ r, r ∈ R' → 71 ≤ r ∧ r ≤ 98 ∧ r ∉ rRg) (h3 : ∀ k, k ∈ K' → k ∉ rKs) (h : ∀ σ S, CI σ S → PI S → ∃ v s, A σ = some (v, s) ∧ fr R σ s ∧ ∀ σ1, RI σ1 S → ∃ s', B σ1 = some (v, s') ∧ fq R' K' σ1 s' ∧ ∀ c, c < 5832 → s' 81 0 c = σ1 81 0 c) : SIM A B := SIM_i (fun σ S hC hP => by
  obtain ⟨v, s, a, b, c⟩ := h σ S hC hP
  refine ⟨v, s, S, a, okC_fr b (fun r hr => (h1 r hr).1), CI_ag hC (ag_fr b (fun r hr hR => (h1 r hR).2 hr)), hP, fun σ1 hR1 => ?_⟩
  obtain ⟨s', d, e, f⟩ := c σ1 hR1
  exact ⟨s', d, okR_fq e (fun r hr => ⟨(h2 r hr).1, (h2 r hr).2.1⟩), RI_k hR1 e (fun r hr hR => (h2 r hR).2.2 hr) (fun k hk hK => h3 k hK hk) f⟩)
theorem elC_cd {σ : mS} {t : tn} {g i : Nat} (h : elC σ g = t) (hi : i < 3) : σ 7 g i = tcd t i := by
  subst h
  have : i = 0 ∨ i = 1 ∨ i = 2 := by omega
  rcases this with rfl | rfl | rfl <;> rfl
theorem SIM_element {N : Nat} (a b : Int) : SIM (f_X11_element N a b) (f_X12_element N a b) := SIM_ro (fun σ S hC hP => by
  have hn := CI_n hC
  have h48 := CI_48 hC
  by_cases q : 0 ≤ a ∧ a < (sn S : Int)
  · obtain ⟨g, rfl⟩ : ∃ g : Nat, a = (g : Int) := ⟨a.toNat, by omega⟩
    by_cases q2 : 0 ≤ b ∧ b < 3
    · obtain ⟨i, rfl⟩ : ∃ i : Nat, b = (i : Int) := ⟨b.toNat, by omega⟩
      refine ⟨tcd (sE S g) i, ?_, fun σ1 h1 => ?_⟩
      · unfold f_X11_element
        rw [X1_has_eq hn, if_pos q, Option.bind_some]
        try dsimp only
        rw [if_neg (by decide), if_neg (by omega), if_neg (by omega), if_pos (by omega), tN, tN, elC_cd (CI_E hC g (by omega)) (by omega)]
      · unfold f_X12_element
        rw [X12_isE_eq (RI_G h1).1 h48, if_pos q, Option.bind_some]
        try dsimp only
        rw [if_neg (by decide), X12_in_eq, if_pos (by omega), Option.bind_some]
        try dsimp only
        have x1 : mw ((mw ((3 : Int) * (g : Int))) + (i : Int)) = ((3 * g + i : Nat) : Int) := by
          rw [show mw ((3 : Int) * (g : Int)) = 3 * (g : Int) from mw_id (by omega) (by omega), mw_id (by omega) (by omega)]
          omega
        rw [if_neg (by decide), x1, if_pos (by omega), tN, RG_cd (RI_G h1) (by omega) (by omega)]
    · refine ⟨0, ?_, fun σ1 h1 => ?_⟩
      · unfold f_X11_element
        rw [X1_has_eq hn, if_pos q, Option.bind_some]
        try dsimp only
        rw [if_neg (by decide)]
        by_cases q3 : b < 0
        · rw [if_pos q3]
        · rw [if_neg q3, if_pos (by omega)]
      · unfold f_X12_element
        rw [X12_isE_eq (RI_G h1).1 h48, if_pos q, Option.bind_some]
        try dsimp only
        rw [if_neg (by decide), X12_in_eq, if_neg (by omega), Option.bind_some]
        try dsimp only
        rw [if_pos rfl]
  · refine ⟨0, ?_, fun σ1 h1 => ?_⟩
    · unfold f_X11_element
      rw [X1_has_eq hn, if_neg q, Option.bind_some]
      try dsimp only
      rw [if_pos rfl]
    · unfold f_X12_element
      rw [X12_isE_eq (RI_G h1).1 h48, if_neg q, Option.bind_some]
      try dsimp only
      rw [if_pos rfl])
theorem SIM_times {N : Nat} (hN : 1000 ≤ N) (a b : Int) : SIM (f_X11_times N a b) (f_X12_times N a b) := SIM_ro (fun σ S hC hP => by
  have hn := CI_n hC
  have h48 := CI_48 hC
  by_cases q : 0 ≤ a ∧ a < (sn S : Int)
  · by_cases q2 : 0 ≤ b ∧ b < (sn S : Int)
    · obtain ⟨g, rfl⟩ : ∃ g : Nat, a = (g : Int) := ⟨a.toNat, by omega⟩
      obtain ⟨i, rfl⟩ : ∃ i : Nat, b = (i : Int) := ⟨b.toNat, by omega⟩
      refine ⟨(gm (sE S) (sn S) g i : Int), ?_, fun σ1 h1 => ?_⟩
      · unfold f_X11_times
        rw [X1_has_eq hn, if_pos q, Option.bind_some]
        try dsimp only
        rw [if_neg (by decide), X1_has_eq hn, if_pos q2, Option.bind_some]
        try dsimp only
        rw [if_neg (by decide), if_pos (by omega), tN, tN]
        rw [show σ 16 g i = (gm (sE S) (sn S) g i : Int) from hC.2.1.2.2.1.2.2 g (show g < sn S by omega) i (show i < sn S by omega)]
      · unfold f_X12_times
        rw [X12_isE_eq (RI_G h1).1 h48, if_pos q, Option.bind_some]
        try dsimp only
        rw [if_neg (by decide), X12_isE_eq (RI_G h1).1 h48, if_pos q2, Option.bind_some]
        try dsimp only
        rw [if_neg (by decide), X12_product_eq (by omega) (RI_G h1) (by omega) (by omega), Option.bind_some]
    · refine ⟨-1, ?_, fun σ1 h1 => ?_⟩
      · unfold f_X11_times
        rw [X1_has_eq hn, if_pos q, Option.bind_some]
        try dsimp only
        rw [if_neg (by decide), X1_has_eq hn, if_neg q2, Option.bind_some]
        try dsimp only
        rw [if_pos rfl]
      · unfold f_X12_times
        rw [X12_isE_eq (RI_G h1).1 h48, if_pos q, Option.bind_some]
        try dsimp only
        rw [if_neg (by decide), X12_isE_eq (RI_G h1).1 h48, if_neg q2, Option.bind_some]
        try dsimp only
        rw [if_pos rfl]
  · refine ⟨-1, ?_, fun σ1 h1 => ?_⟩
    · unfold f_X11_times
      rw [X1_has_eq hn, if_neg q, Option.bind_some]
      try dsimp only
      rw [if_pos rfl]
    · unfold f_X12_times
      rw [X12_isE_eq (RI_G h1).1 h48, if_neg q, Option.bind_some]
      try dsimp only
      rw [if_pos rfl])
theorem SIM_of {N : Nat} (hN : 1000 ≤ N) (a b : Int) : SIM (f_X11_of N a b) (f_X12_of N a b) := SIM_ro (fun σ S hC hP => by
  have hn := CI_n hC
  have h48 := CI_48 hC
  by_cases q : 0 ≤ a ∧ a < (sn S : Int)
  · obtain ⟨g, rfl⟩ : ∃ g : Nat, a = (g : Int) := ⟨a.toNat, by omega⟩
    have hg : g < sn S := by omega
    have hg48 : (0 : Int) ≤ (g : Int) ∧ (g : Int) < 48 := by omega
    have cA : f_X11_of N (g : Int) b σ = (if b = 0 then some ((gv (sE S) (sn S) g : Int), σ) else if b = 1 then some ((gor (sE S) (sn S) g : Int), σ) else if b = 2 then some ((clo (sE S) (sn S) (sn S)).1 g, σ) else if b = 3 then some ((if mir (sE S g) = true then 1 else 0), σ) else some (-1, σ)) := by
      unfold f_X11_of
      rw [X1_has_eq hn, if_pos q, Option.bind_some]
      try dsimp only
      rw [if_neg (by decide), if_pos hg48, if_pos hg48, if_pos hg48, if_pos hg48, tN, show σ 17 0 g = (gv (sE S) (sn S) g : Int) from (hC.2.1.2.2.2.1 g hg).1, show σ 18 0 g = (gor (sE S) (sn S) g : Int) from (hC.2.1.2.2.2.1 g hg).2, show σ 19 0 g = (clo (sE S) (sn S) (sn S)).1 g from hC.2.1.2.2.2.2.1.2.1 g hg, show σ 22 0 g = (if mir (sE S g) = true then 1 else 0) from hC.2.1.2.2.2.2.2.2 g hg]
      by_cases qm : mir (sE S g) = true
      · rw [if_pos qm, if_neg (c := (1 : Int) = 0) (by decide)]
      · rw [if_neg qm, if_pos (c := (0 : Int) = 0) rfl]
    have cB : ∀ σ1, RI σ1 S → f_X12_of N (g : Int) b σ1 = (if b = 0 then some ((gv (sE S) (sn S) g : Int), σ1) else if b = 1 then some ((gor (sE S) (sn S) g : Int), σ1) else if b = 2 then some ((clo (sE S) (sn S) (sn S)).1 g, σ1) else if b = 3 then some ((if mir (sE S g) = true then 1 else 0), σ1) else some (-1, σ1)) := fun σ1 h1 => by
      unfold f_X12_of
      rw [X12_isE_eq (RI_G h1).1 h48, if_pos q, Option.bind_some]
      try dsimp only
      rw [if_neg (by decide), X12_back_eq (by omega) (RI_G h1) hg, Option.bind_some, X12_order_eq (by omega) (RI_G h1) hg, Option.bind_some, if_pos hg48, tN, h1.2.2.2.1.2 g hg, X12_isMirror_eq (by omega) (RI_G h1) hg, Option.bind_some]
      try dsimp only
      by_cases qm : mir (sE S g) = true
      · rw [if_pos qm, if_neg (c := (1 : Int) = 0) (by decide)]
      · rw [if_neg qm, if_pos (c := (0 : Int) = 0) rfl]
    by_cases b0 : b = 0
    · exact ⟨_, by rw [cA, if_pos b0], fun σ1 h1 => by rw [cB σ1 h1, if_pos b0]⟩
    by_cases b1 : b = 1
    · exact ⟨_, by rw [cA, if_neg b0, if_pos b1], fun σ1 h1 => by rw [cB σ1 h1, if_neg b0, if_pos b1]⟩
    by_cases b2 : b = 2
    · exact ⟨_, by rw [cA, if_neg b0, if_neg b1, if_pos b2], fun σ1 h1 => by rw [cB σ1 h1, if_neg b0, if_neg b1, if_pos b2]⟩
    by_cases b3 : b = 3
    · exact ⟨_, by rw [cA, if_neg b0, if_neg b1, if_neg b2, if_pos b3], fun σ1 h1 => by rw [cB σ1 h1, if_neg b0, if_neg b1, if_neg b2, if_pos b3]⟩
    · exact ⟨_, by rw [cA, if_neg b0, if_neg b1, if_neg b2, if_neg b3], fun σ1 h1 => by rw [cB σ1 h1, if_neg b0, if_neg b1, if_neg b2, if_neg b3]⟩
  · refine ⟨-1, ?_, fun σ1 h1 => ?_⟩
    · unfold f_X11_of
      rw [X1_has_eq hn, if_neg q, Option.bind_some]
      try dsimp only
      rw [if_pos rfl]
    · unfold f_X12_of
      rw [X12_isE_eq (RI_G h1).1 h48, if_neg q, Option.bind_some]
      try dsimp only
      rw [if_pos rfl])
theorem CI_s {σ : mS} {S : aSt} (h : CI σ S) : σ 26 0 0 = ((sc S).length : Int) ∧ (sc S).length ≤ 16 := ⟨h.2.2.1.1, sc_le (CI_M h).1⟩
theorem SIM_sign {N : Nat} (a b : Int) : SIM (f_X11_sign N a b) (f_X12_sign N a b) := SIM_ro (fun σ S hC hP => by
  have hn := CI_n hC
  have h48 := CI_48 hC
  obtain ⟨hs, h16⟩ := CI_s hC
  by_cases q : 0 ≤ a ∧ a < ((sc S).length : Int)
  · by_cases q2 : 0 ≤ b ∧ b < (sn S : Int)
    · obtain ⟨c, rfl⟩ : ∃ g : Nat, a = (g : Int) := ⟨a.toNat, by omega⟩
      obtain ⟨g, rfl⟩ : ∃ i : Nat, b = (i : Int) := ⟨b.toNat, by omega⟩
      refine ⟨sg S c g, ?_, fun σ1 h1 => ?_⟩
      · unfold f_X11_sign
        rw [X9_has_eq hs, if_pos q, Option.bind_some]
        try dsimp only
        rw [if_neg (by decide), X1_has_eq hn, if_pos q2, Option.bind_some]
        try dsimp only
        rw [if_neg (by decide), if_pos (by omega), tN, tN, (CI_sg hC (by omega) g (by omega)).1]
      · unfold f_X12_sign
        rw [X12_isS_eq h1.2.2.1.1 h16, if_pos q, Option.bind_some]
        try dsimp only
        rw [if_neg (by decide), X12_isE_eq (RI_G h1).1 h48, if_pos q2, Option.bind_some]
        try dsimp only
        rw [if_neg (by decide), mw48 (by omega) (by omega), if_pos (by omega), tN, (RI_sg hC h1 (by omega) g (by omega)).1]
    · refine ⟨0, ?_, fun σ1 h1 => ?_⟩
      · unfold f_X11_sign
        rw [X9_has_eq hs, if_pos q, Option.bind_some]
        try dsimp only
        rw [if_neg (by decide), X1_has_eq hn, if_neg q2, Option.bind_some]
        try dsimp only
        rw [if_pos rfl]
      · unfold f_X12_sign
        rw [X12_isS_eq h1.2.2.1.1 h16, if_pos q, Option.bind_some]
        try dsimp only
        rw [if_neg (by decide), X12_isE_eq (RI_G h1).1 h48, if_neg q2, Option.bind_some]
        try dsimp only
        rw [if_pos rfl]
  · refine ⟨0, ?_, fun σ1 h1 => ?_⟩
    · unfold f_X11_sign
      rw [X9_has_eq hs, if_neg q, Option.bind_some]
      try dsimp only
      rw [if_pos rfl]
    · unfold f_X12_sign
      rw [X12_isS_eq h1.2.2.1.1 h16, if_neg q, Option.bind_some]
      try dsimp only
      rw [if_pos rfl])
theorem X7_are_eq {N : Nat} {a b c : Int} {σ : mS} : f_X7_are N a b c σ = some (if 0 ≤ a ∧ 0 ≤ b ∧ 0 ≤ c ∧ a + b + c ≤ 8 then 1 else 0, σ) := by
  unfold f_X7_are
  by_cases q : 0 ≤ a ∧ a ≤ 8 ∧ 0 ≤ b ∧ b ≤ 8 ∧ 0 ≤ c ∧ c ≤ 8
  · rw [if_neg (by omega), if_neg (by omega), if_neg (by omega), if_neg (by omega), if_neg (by omega), if_pos (by omega), show mw (a + b) = a + b from mw_id (by omega) (by omega), mw_id (by omega) (by omega)]
    by_cases q2 : 8 < a + b + c
    · rw [if_pos q2, if_neg (by omega)]
    · rw [if_neg q2, if_pos (by omega)]
  · rw [if_neg (c := 0 ≤ a ∧ 0 ≤ b ∧ 0 ≤ c ∧ a + b + c ≤ 8) (by omega)]
    by_cases q1 : a < 0
    · rw [if_pos q1]
    by_cases q2 : 8 < a
    · rw [if_neg q1, if_pos q2]
    by_cases q3 : b < 0
    · rw [if_neg q1, if_neg q2, if_pos q3]
    by_cases q4 : 8 < b
    · rw [if_neg q1, if_neg q2, if_neg q3, if_pos q4]
    by_cases q5 : c < 0
    · rw [if_neg q1, if_neg q2, if_neg q3, if_neg q4, if_pos q5]
    · rw [if_neg q1, if_neg q2, if_neg q3, if_neg q4, if_neg q5, if_neg (by omega)]
theorem X12_are_eq {N : Nat} {a b c : Int} {σ : mS} : f_X12_arePowers N a b c σ = some (if 0 ≤ a ∧ 0 ≤ b ∧ 0 ≤ c ∧ a + b + c ≤ 8 then 1 else 0, σ) := by
  unfold f_X12_arePowers
  by_cases q : 0 ≤ a ∧ a ≤ 8 ∧ 0 ≤ b ∧ b ≤ 8 ∧ 0 ≤ c ∧ c ≤ 8
  · rw [if_neg (by omega), if_neg (by omega), if_neg (by omega), if_neg (by omega), if_neg (by omega), if_neg (by omega), show mw (a + b) = a + b from mw_id (by omega) (by omega), mw_id (by omega) (by omega)]
    by_cases q2 : 8 < a + b + c
    · rw [if_pos q2, if_neg (by omega)]
    · rw [if_neg q2, if_pos (by omega)]
  · rw [if_neg (c := 0 ≤ a ∧ 0 ≤ b ∧ 0 ≤ c ∧ a + b + c ≤ 8) (by omega)]
    by_cases q1 : a < 0
    · rw [if_pos q1]
    by_cases q2 : b < 0
    · rw [if_neg q1, if_pos q2]
    by_cases q3 : c < 0
    · rw [if_neg q1, if_neg q2, if_pos q3]
    by_cases q4 : 8 < a
    · rw [if_neg q1, if_neg q2, if_neg q3, if_pos q4]
    by_cases q5 : 8 < b
    · rw [if_neg q1, if_neg q2, if_neg q3, if_neg q4, if_pos q5]
    · rw [if_neg q1, if_neg q2, if_neg q3, if_neg q4, if_neg q5, if_pos (by omega)]
theorem SIM_number {N : Nat} (a b c d : Int) : SIM (f_X11_number N a b c d) (f_X12_number N a b c d) := SIM_ro (fun σ S hC hP => by
  by_cases q : 0 ≤ a ∧ a < 8
  · by_cases q2 : 0 ≤ b ∧ 0 ≤ c ∧ 0 ≤ d ∧ b + c + d ≤ 8
    · obtain ⟨p, rfl⟩ : ∃ g : Nat, a = (g : Int) := ⟨a.toNat, by omega⟩
      obtain ⟨i, rfl⟩ : ∃ g : Nat, b = (g : Int) := ⟨b.toNat, by omega⟩
      obtain ⟨j, rfl⟩ : ∃ g : Nat, c = (g : Int) := ⟨c.toNat, by omega⟩
      obtain ⟨k, rfl⟩ : ∃ g : Nat, d = (g : Int) := ⟨d.toNat, by omega⟩
      have hx := (ixn_ok (i := i) (j := j) (k := k) (by omega)).1
      refine ⟨sP S p (ixn i j k), ?_, fun σ1 h1 => ?_⟩
      · unfold f_X11_number
        rw [X6_has_eq, if_pos q, Option.bind_some]
        try dsimp only
        rw [if_neg (by decide), X7_are_eq, if_pos q2, Option.bind_some]
        try dsimp only
        rw [if_neg (by decide), if_pos q, X7_indexOf_eq (by omega), Option.bind_some]
        try dsimp only
        rw [if_pos (by omega), tN, tN, hC.2.2.2.2.2.2.1 p (by omega) _ hx]
      · unfold f_X12_number
        rw [X12_isP_eq, if_pos q, Option.bind_some]
        try dsimp only
        rw [if_neg (by decide), X12_are_eq, if_pos q2, Option.bind_some]
        try dsimp only
        rw [if_neg (by decide), X12_of_eq (by omega) (by omega) h1.2.2.2.2.1, Option.bind_some]
    · refine ⟨0, ?_, fun σ1 h1 => ?_⟩
      · unfold f_X11_number
        rw [X6_has_eq, if_pos q, Option.bind_some]
        try dsimp only
        rw [if_neg (by decide), X7_are_eq, if_neg q2, Option.bind_some]
        try dsimp only
        rw [if_pos rfl]
      · unfold f_X12_number
        rw [X12_isP_eq, if_pos q, Option.bind_some]
        try dsimp only
        rw [if_neg (by decide), X12_are_eq, if_neg q2, Option.bind_some]
        try dsimp only
        rw [if_pos rfl]
  · refine ⟨0, ?_, fun σ1 h1 => ?_⟩
    · unfold f_X11_number
      rw [X6_has_eq, if_neg q, Option.bind_some]
      try dsimp only
      rw [if_pos rfl]
    · unfold f_X12_number
      rw [X12_isP_eq, if_neg q, Option.bind_some]
      try dsimp only
      rw [if_pos rfl])
theorem SIM_degree {N : Nat} (hN : 1000 ≤ N) (a : Int) : SIM (f_X11_degree N a) (f_X12_degree N a) := SIM_ro (fun σ S hC hP => by
  by_cases q : 0 ≤ a ∧ a < 8
  · obtain ⟨p, rfl⟩ : ∃ g : Nat, a = (g : Int) := ⟨a.toNat, by omega⟩
    refine ⟨pdg (sP S p), ?_, fun σ1 h1 => ?_⟩
    · unfold f_X11_degree
      rw [X6_has_eq, if_pos q, Option.bind_some]
      try dsimp only
      rw [if_neg (by decide), X6_degreeOf_eq hN hC.2.2.2.1 (by omega) (hC.2.2.2.2.2.2.1 p (by omega)), Option.bind_some]
    · unfold f_X12_degree
      rw [X12_isP_eq, if_pos q, Option.bind_some]
      try dsimp only
      rw [if_neg (by decide), X12_degree0_eq hN (by omega) h1.2.2.2.2.1, Option.bind_some]
  · refine ⟨-1, ?_, fun σ1 h1 => ?_⟩
    · unfold f_X11_degree
      rw [X6_has_eq, if_neg q, Option.bind_some]
      try dsimp only
      rw [if_pos rfl]
    · unfold f_X12_degree
      rw [X12_isP_eq, if_neg q, Option.bind_some]
      try dsimp only
      rw [if_pos rfl])
theorem SIM_part {N : Nat} (a b : Int) : SIM (f_X11_part N a b) (f_X12_part N a b) := SIM_ro (fun σ S hC hP => by
  refine ⟨ptA (sQ S) (sW S) a b, ?_, fun σ1 h1 => X12_part_eq h1.2.2.2.2.2.2.1⟩
  unfold f_X11_part
  rw [X5_tell_eq hC.2.2.2.2.2.2.2.1, Option.bind_some])
theorem SIM_image {N : Nat} (a b : Int) : SIM (f_X11_image N a b) (f_X12_image N a b) := SIM_ro (fun σ S hC hP => by
  obtain ⟨c1, c2, ⟨c3, c4⟩, c5⟩ := hC.2.2.2.2.2.2.2.2
  by_cases q : 0 ≤ a ∧ a < ((sL S).length : Int)
  · by_cases q2 : 0 ≤ b ∧ b < 3
    · obtain ⟨k, rfl⟩ : ∃ g : Nat, a = (g : Int) := ⟨a.toNat, by omega⟩
      obtain ⟨i, rfl⟩ : ∃ g : Nat, b = (g : Int) := ⟨b.toNat, by omega⟩
      have e : ∀ {σ : mS} {r j b : Nat} {t : tn}, C3 σ r j b t → ∀ i, i < 3 → σ r j (b + i) = tcd t i := fun {σ r j b t} h i hi => by
        have : i = 0 ∨ i = 1 ∨ i = 2 := by omega
        rcases this with rfl | rfl | rfl
        · exact h.1
        · exact h.2.1
        · exact h.2.2
      refine ⟨tcd ((sL S).getD k tid) i, ?_, fun σ1 h1 => ?_⟩
      · unfold f_X11_image f_X2_tell
        have e1 := e (c4 k (by omega)) i (by omega)
        rw [Nat.zero_add] at e1
        rw [c3, if_neg (by omega), if_neg (by omega), if_neg (by omega), if_neg (by omega), if_pos (by omega), tN, tN, e1, Option.bind_some]
      · obtain ⟨d1, d2, ⟨d3, d4⟩, d5⟩ := h1.2.2.2.2.2.2.2
        have x1 : mw ((mw ((3 : Int) * (k : Int))) + (i : Int)) = ((3 * k + i : Nat) : Int) := by
          rw [show mw ((3 : Int) * (k : Int)) = 3 * (k : Int) from mw_id (by omega) (by omega), mw_id (by omega) (by omega)]
          omega
        unfold f_X12_image
        rw [d3, mw_id (z := ((sL S).length : Int) - 1) (by omega) (by omega), X12_in_eq, if_pos (by omega), Option.bind_some]
        try dsimp only
        rw [if_neg (by decide), X12_in_eq, if_pos (by omega), Option.bind_some]
        try dsimp only
        rw [if_neg (by decide), x1, if_pos (by omega), tN, e (d4 k (by omega)) i (by omega)]
    · refine ⟨0, ?_, fun σ1 h1 => ?_⟩
      · unfold f_X11_image f_X2_tell
        rw [c3, if_neg (by omega), if_neg (by omega)]
        by_cases q3 : b < 0
        · rw [if_pos q3, Option.bind_some]
        · rw [if_neg q3, if_pos (by omega), Option.bind_some]
      · obtain ⟨d1, d2, ⟨d3, d4⟩, d5⟩ := h1.2.2.2.2.2.2.2
        unfold f_X12_image
        rw [d3, mw_id (z := ((sL S).length : Int) - 1) (by omega) (by omega), X12_in_eq, if_pos (by omega), Option.bind_some]
        try dsimp only
        rw [if_neg (by decide), X12_in_eq, if_neg (by omega), Option.bind_some]
        try dsimp only
        rw [if_pos rfl]
  · refine ⟨0, ?_, fun σ1 h1 => ?_⟩
    · unfold f_X11_image f_X2_tell
      rw [c3]
      by_cases q3 : a < 0
      · rw [if_pos q3, Option.bind_some]
      · rw [if_neg q3, if_pos (by omega), Option.bind_some]
    · obtain ⟨d1, d2, ⟨d3, d4⟩, d5⟩ := h1.2.2.2.2.2.2.2
      unfold f_X12_image
      rw [d3, mw_id (z := ((sL S).length : Int) - 1) (by omega) (by omega), X12_in_eq, if_neg (by omega), Option.bind_some]
      try dsimp only
      rw [if_pos rfl])
