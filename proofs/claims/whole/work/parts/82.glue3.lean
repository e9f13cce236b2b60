/-! both sides: stays, count, series, value, leads -/
theorem CI_st {N p c : Nat} {σ : mS} {S : aSt} (hN : 1000 ≤ N) (hC : CI σ S) (hP : PI S) (hp : p < 8) (hc : c < (sc S).length) : ∃ s, f_X11_stays N (p : Int) (c : Int) σ = some (bi (stb (sE S) (sn S) (sg S c) (sP S p)), s) ∧ fr [41] σ s := by
  obtain ⟨hs, h16⟩ := CI_s hC
  obtain ⟨s, a, b⟩ := X6_isLeft_eq (N := N) (c := c) hN hC.2.2.2.1 hp (hC.2.2.2.2.2.2.1 p hp) (hP p hp) (CI_n hC) (CI_G hC) (CI_E hC) (CI_sg hC hc)
  refine ⟨s, ?_, b⟩
  unfold f_X11_stays
  rw [X6_has_eq, if_pos (by omega), Option.bind_some]
  try dsimp only
  rw [if_neg (by decide), X9_has_eq hs, if_pos (by omega), Option.bind_some]
  try dsimp only
  rw [if_neg (by decide), if_pos (by omega), tN, a, Option.bind_some]
  try dsimp only
  cases stb (sE S) (sn S) (sg S c) (sP S p)
  · rw [if_pos bi_f]; rfl
  · rw [if_neg (by decide)]; rfl
theorem SIM_stays {N : Nat} (hN : 1000 ≤ N) (a b : Int) : SIM (f_X11_stays N a b) (f_X12_stays N a b) := SIM_s [41] [81] [14, 15, 16, 17] (by decide) (by decide) (by decide) (fun σ S hC hP => by
  obtain ⟨hs, h16⟩ := CI_s hC
  by_cases q : 0 ≤ a ∧ a < 8
  · by_cases q2 : 0 ≤ b ∧ b < ((sc S).length : Int)
    · obtain ⟨p, rfl⟩ : ∃ g : Nat, a = (g : Int) := ⟨a.toNat, by omega⟩
      obtain ⟨c, rfl⟩ : ∃ g : Nat, b = (g : Int) := ⟨b.toNat, by omega⟩
      obtain ⟨s, e1, e2⟩ := CI_st (N := N) (p := p) (c := c) hN hC hP (by omega) (by omega)
      refine ⟨_, s, e1, e2, fun σ1 h1 => ?_⟩
      obtain ⟨s', f1, f2, f3⟩ := X12_stays0_eq (N := N) (c := c) hN (RI_G h1) (show p < 8 by omega) (by omega) h1.2.2.2.2.1 (hP p (by omega)) (RI_sg hC h1 (by omega))
      refine ⟨s', ?_, f2, fun k hk => ?_⟩
      · unfold f_X12_stays
        rw [X12_isP_eq, if_pos q, Option.bind_some]
        try dsimp only
        rw [if_neg (by decide), X12_isS_eq h1.2.2.1.1 h16, if_pos q2, Option.bind_some]
        try dsimp only
        rw [if_neg (by decide), f1, Option.bind_some]
        try dsimp only
        cases stb (sE S) (sn S) (sg S c) (sP S p)
        · rw [if_pos bi_f]; rfl
        · rw [if_neg (by decide)]; rfl
      · have g1 := f3 (k / 729) (by omega) (k % 729) (by omega)
        have g2 := h1.2.2.2.2.1 (k / 729) (by omega) (k % 729) (by omega)
        rw [show 729 * (k / 729) + k % 729 = k from by omega] at g1 g2
        rw [g1, g2]
    · refine ⟨-1, σ, ?_, fr_rfl, fun σ1 h1 => ⟨σ1, ?_, fq_rfl, fun _ _ => rfl⟩⟩
      · unfold f_X11_stays
        rw [X6_has_eq, if_pos q, Option.bind_some]
        try dsimp only
        rw [if_neg (by decide), X9_has_eq hs, if_neg q2, Option.bind_some]
        try dsimp only
        rw [if_pos rfl]
      · unfold f_X12_stays
        rw [X12_isP_eq, if_pos q, Option.bind_some]
        try dsimp only
        rw [if_neg (by decide), X12_isS_eq h1.2.2.1.1 h16, if_neg q2, Option.bind_some]
        try dsimp only
        rw [if_pos rfl]
  · refine ⟨-1, σ, ?_, fr_rfl, fun σ1 h1 => ⟨σ1, ?_, fq_rfl, fun _ _ => rfl⟩⟩
    · unfold f_X11_stays
      rw [X6_has_eq, if_neg q, Option.bind_some]
      try dsimp only
      rw [if_pos rfl]
    · unfold f_X12_stays
      rw [X12_isP_eq, if_neg q, Option.bind_some]
      try dsimp only
      rw [if_pos rfl])
theorem CI_ct {N d c : Nat} {σ : mS} {S : aSt} (hN : 1000 ≤ N) (hC : CI σ S) (hd : d ≤ 8) (hc : c < (sc S).length) : ∃ s, f_X11_count N (d : Int) (c : Int) σ = some ((cnt (sE S) (sn S) (sg S c) d : Int), s) ∧ fr [41] σ s := by
  obtain ⟨hs, h16⟩ := CI_s hC
  obtain ⟨s, a, b⟩ := X6_count_eq (N := N) (c := c) hN hC.2.2.2.1 hd (CI_n hC) (CI_G hC) (CI_E hC) (CI_sg hC hc)
  refine ⟨s, ?_, b⟩
  unfold f_X11_count
  rw [if_neg (by omega), if_neg (by omega), X9_has_eq hs, if_pos (by omega), Option.bind_some]
  try dsimp only
  rw [if_neg (by decide), if_pos (by omega), tN, a, Option.bind_some]
theorem SIM_count {N : Nat} (hN : 1000 ≤ N) (a b : Int) : SIM (f_X11_count N a b) (f_X12_count N a b) := SIM_s [41] [] [14, 15, 16, 17] (by decide) (by decide) (by decide) (fun σ S hC hP => by
  obtain ⟨hs, h16⟩ := CI_s hC
  by_cases q : 0 ≤ a ∧ a ≤ 8
  · by_cases q2 : 0 ≤ b ∧ b < ((sc S).length : Int)
    · obtain ⟨d, rfl⟩ : ∃ g : Nat, a = (g : Int) := ⟨a.toNat, by omega⟩
      obtain ⟨c, rfl⟩ : ∃ g : Nat, b = (g : Int) := ⟨b.toNat, by omega⟩
      obtain ⟨s, e1, e2⟩ := CI_ct (N := N) (d := d) (c := c) hN hC (by omega) (by omega)
      refine ⟨_, s, e1, e2, fun σ1 h1 => ?_⟩
      obtain ⟨s', f1, f2⟩ := X12_count0_eq (N := N) (c := c) hN (RI_G h1) (show d ≤ 8 by omega) (by omega) (RI_sg hC h1 (by omega)) (sg_mul hC (by omega))
      refine ⟨s', ?_, f2, fun k hk => f2.1 81 _ _ (by simp) (by decide)⟩
      unfold f_X12_count
      rw [X12_in_eq, if_pos q, Option.bind_some]
      try dsimp only
      rw [if_neg (by decide), X12_isS_eq h1.2.2.1.1 h16, if_pos q2, Option.bind_some]
      try dsimp only
      rw [if_neg (by decide), f1, Option.bind_some]
    · refine ⟨-1, σ, ?_, fr_rfl, fun σ1 h1 => ⟨σ1, ?_, fq_rfl, fun _ _ => rfl⟩⟩
      · unfold f_X11_count
        rw [if_neg (by omega), if_neg (by omega), X9_has_eq hs, if_neg q2, Option.bind_some]
        try dsimp only
        rw [if_pos rfl]
      · unfold f_X12_count
        rw [X12_in_eq, if_pos q, Option.bind_some]
        try dsimp only
        rw [if_neg (by decide), X12_isS_eq h1.2.2.1.1 h16, if_neg q2, Option.bind_some]
        try dsimp only
        rw [if_pos rfl]
  · refine ⟨-1, σ, ?_, fr_rfl, fun σ1 h1 => ⟨σ1, ?_, fq_rfl, fun _ _ => rfl⟩⟩
    · unfold f_X11_count
      by_cases q3 : a < 0
      · rw [if_pos q3]
      · rw [if_neg q3, if_pos (by omega)]
    · unfold f_X12_count
      rw [X12_in_eq, if_neg q, Option.bind_some]
      try dsimp only
      rw [if_pos rfl])
theorem sg_cj {σ : mS} {S : aSt} (h : CI σ S) {c : Nat} (hc : c < (sc S).length) : ∀ f g, f < sn S → g < sn S → sg S c (gcj (sE S) (sn S) f g) = sg S c g := fun f g hf hg => by
  have hG := CI_G h
  obtain ⟨v1, -⟩ := gv_ok hG hf
  have m1 := sg_mul h hc
  have e0 : sg S c 0 = 1 := rfl
  have e1 : sg S c (gv (sE S) (sn S) f) * sg S c f = 1 := by rw [← m1 _ _ v1 hf, gm_vl hG hf, e0]
  have e2 : sg S c f * sg S c (gv (sE S) (sn S) f) = 1 := by rw [Int.mul_comm]; exact e1
  unfold gcj
  first
    | rw [m1 _ _ (gm_ok hG v1 hg).1 hf, m1 _ _ v1 hg, Int.mul_comm (sg S c (gv (sE S) (sn S) f)) (sg S c g), Int.mul_assoc, e1, Int.mul_one]
    | rw [m1 _ _ (gm_ok hG hf hg).1 v1, m1 _ _ hf hg, Int.mul_comm (sg S c f) (sg S c g), Int.mul_assoc, e2, Int.mul_one]
    | rw [m1 _ _ v1 (gm_ok hG hg hf).1, m1 _ _ hg hf, Int.mul_comm (sg S c g) (sg S c f), ← Int.mul_assoc, e1, Int.one_mul]
    | rw [m1 _ _ hf (gm_ok hG hg v1).1, m1 _ _ hg v1, Int.mul_comm (sg S c g) (sg S c (gv (sE S) (sn S) f)), ← Int.mul_assoc, e2, Int.one_mul]
theorem SIM_series {N : Nat} (hN : 1000 ≤ N) (a b : Int) : SIM (f_X11_series N a b) (f_X12_series N a b) := SIM_s [23, 24, 25, 30] [82] [] (by decide) (by decide) (by decide) (fun σ S hC hP => by
  obtain ⟨hs, h16⟩ := CI_s hC
  by_cases q : 0 ≤ a ∧ a ≤ 200
  · by_cases q2 : 0 ≤ b ∧ b < ((sc S).length : Int)
    · obtain ⟨d, rfl⟩ : ∃ g : Nat, a = (g : Int) := ⟨a.toNat, by omega⟩
      obtain ⟨c, rfl⟩ : ∃ g : Nat, b = (g : Int) := ⟨b.toNat, by omega⟩
      obtain ⟨s, e1, e2⟩ := X4_at_eq (N := N) (d := d) (c := c) hN (by omega) (CI_n hC) (CI_G hC) (CI_E hC) hC.2.1.2.2.2.2.1 (CI_sg hC (by omega)) (sg_cj hC (by omega))
      refine ⟨(srs (sE S) (sn S) (sg S c) d).tdiv (sn S : Int), s, ?_, e2, fun σ1 h1 => ?_⟩
      · unfold f_X11_series
        rw [if_neg (by omega), if_neg (by omega), X9_has_eq hs, if_pos q2, Option.bind_some]
        try dsimp only
        rw [if_neg (by decide), if_pos (by omega), tN, e1, Option.bind_some]
      · obtain ⟨⟨o1, s'⟩, f1, f2, f3, f4⟩ := X12_series_eq (N := N) (d := d) (c := c) hN (by omega) (by omega) (RI_G h1) (RI_sg hC h1 (by omega))
        have hn0 := (CI_G hC).1
        replace f2 : fr [82] σ1 s' := f2
        replace f4 : mw (o_ldiv o1 (s' 71 0 6)) = (srs (sE S) (sn S) (sg S c) d).tdiv (sn S : Int) := f4
        have h6 : s' 71 0 6 = (sn S : Int) := by rw [f2 71 _ _ (by decide)]; exact (RI_G h1).1
        refine ⟨s', ?_, fq_sub (fq_of f2 (by decide)) (fun r hr => hr) (fun k hk => hk), fun k hk => f2 81 _ _ (by decide)⟩
        unfold f_X12_series
        rw [X12_in_eq, if_pos q, Option.bind_some]
        try dsimp only
        rw [if_neg (by decide), X12_isS_eq h1.2.2.1.1 h16, if_pos q2, Option.bind_some]
        try dsimp only
        rw [if_neg (by decide), f1, Option.bind_some]
        try dsimp only
        rw [if_pos (by rw [h6]; omega), f4]
    · refine ⟨-1, σ, ?_, fr_rfl, fun σ1 h1 => ⟨σ1, ?_, fq_rfl, fun _ _ => rfl⟩⟩
      · unfold f_X11_series
        rw [if_neg (by omega), if_neg (by omega), X9_has_eq hs, if_neg q2, Option.bind_some]
        try dsimp only
        rw [if_pos rfl]
      · unfold f_X12_series
        rw [X12_in_eq, if_pos q, Option.bind_some]
        try dsimp only
        rw [if_neg (by decide), X12_isS_eq h1.2.2.1.1 h16, if_neg q2, Option.bind_some]
        try dsimp only
        rw [if_pos rfl]
  · refine ⟨-1, σ, ?_, fr_rfl, fun σ1 h1 => ⟨σ1, ?_, fq_rfl, fun _ _ => rfl⟩⟩
    · unfold f_X11_series
      by_cases q3 : a < 0
      · rw [if_pos q3]
      · rw [if_neg q3, if_pos (by omega)]
    · unfold f_X12_series
      rw [X12_in_eq, if_neg q, Option.bind_some]
      try dsimp only
      rw [if_pos rfl])
theorem vts_rg (Q : Nat → Int) (u v w : Int) : ∀ n : Nat, 0 ≤ sm (vt Q u v w) n ∧ sm (vt Q u v w) n ≤ 32003 * (n : Int)
  | 0 => ⟨Int.le_refl _, Int.le_refl _⟩
  | n + 1 => by
    have ih := vts_rg Q u v w n
    have := md_lt (Q n * ppw u (pI n) % 32003 * ppw v (pJ n) % 32003 * ppw w (pK n))
    rw [sm_s]
    unfold vt at *
    omega
theorem SIM_value {N : Nat} (hN : 1000 ≤ N) (a b c d : Int) (hb : mw b = b) (hc : mw c = c) (hd : mw d = d) : SIM (f_X11_value N a b c d) (f_X12_value N a b c d) := SIM_s [36] [] [] (by decide) (by decide) (by decide) (fun σ S hC hP => by
  by_cases q : 0 ≤ a ∧ a < 8
  · obtain ⟨p, rfl⟩ : ∃ g : Nat, a = (g : Int) := ⟨a.toNat, by omega⟩
    obtain ⟨s, e1, e2⟩ := X6_value_eq (N := N) (p := p) (u := b) (v := c) (w := d) hN hC.2.2.2.1 (by omega) (hC.2.2.2.2.2.2.1 p (by omega)) (hP p (by omega)) hb hc hd
    refine ⟨vl (sP S p) (b % 32003) (c % 32003) (d % 32003), s, ?_, e2, fun σ1 h1 => ⟨σ1, ?_, fq_rfl, fun _ _ => rfl⟩⟩
    · unfold f_X11_value
      rw [X6_has_eq, if_pos q, Option.bind_some]
      try dsimp only
      rw [if_neg (by decide), e1, Option.bind_some]
    · have r := vts_rg (sP S p) (b % 32003) (c % 32003) (d % 32003) 165
      unfold f_X12_value
      rw [X12_isP_eq, if_pos q, Option.bind_some]
      try dsimp only
      rw [if_neg (by decide), X12_value_lp hN (by omega) h1.2.2.2.2.1 (hP p (by omega)) hb hc hd, Option.bind_some]
      try dsimp only
      rw [X12_left_eq (mx_small (by omega) (by omega)), Option.bind_some]
      rfl
  · refine ⟨-1, σ, ?_, fr_rfl, fun σ1 h1 => ⟨σ1, ?_, fq_rfl, fun _ _ => rfl⟩⟩
    · unfold f_X11_value
      rw [X6_has_eq, if_neg q, Option.bind_some]
      try dsimp only
      rw [if_pos rfl]
    · unfold f_X12_value
      rw [X12_isP_eq, if_neg q, Option.bind_some]
      try dsimp only
      rw [if_pos rfl])
theorem SIM_leads {N : Nat} (hN : 1000 ≤ N) (a b c : Int) : SIM (f_X11_leads N a b c) (f_X12_leads N a b c) := SIM_s [70] [98] [] (by decide) (by decide) (by decide) (fun σ S hC hP => by
  obtain ⟨s, e1, e2⟩ := X2_leads_eq (N := N) (b := (a, b, c)) (by omega) (CI_n hC) (CI_G hC) (CI_E hC) hC.2.2.2.2.2.2.2.2
  refine ⟨if sAc S = true then fnd (fun g => ldt (sE S g) (sp S)) (a, b, c) (sn S) 0 else -1, s, ?_, e2, fun σ1 h1 => ?_⟩
  · unfold f_X11_leads
    try dsimp only at e1
    rw [e1, Option.bind_some]
  · obtain ⟨s', f1, f2⟩ := X12_leads_eq (N := N) (b := (a, b, c)) (by omega) (RI_G h1) h1.2.2.2.2.2.2.2
    exact ⟨s', f1, fq_of f2 (by decide), fun k _ => f2 81 _ _ (by decide)⟩)
