/-! both sides: put, sum, product, turned, mean -/
theorem pst_nm {P : Nat → Nat → Int} {p : Nat} {A : Nat → Int} (h : ∀ q, q < 8 → nm (P q)) (hA : nm A) : ∀ q, q < 8 → nm (pst P p A q) := fun q hq => by
  unfold pst
  split
  · exact hA
  · exact h q hq
theorem nm_md {F : Nat → Int} : nm (fun x => F x % 32003) := fun x _ => md_lt _
def cRq : List Nat := [3, 4, 5, 7, 8, 12, 13, 14, 16, 17, 18, 19, 20, 21, 22, 26, 28, 39, 40, 42, 43, 44, 47, 49, 51, 52, 53, 55, 57, 58, 61, 62, 63, 65, 66, 67, 69]
/-- slot p is written, the answer is its degree -/
theorem SIM_w {A B : mS → Option (Int × mS)} {σ : mS} {S : aSt} {p : Nat} {Q : Nat → Int} {v : Int} {s : mS} (R R' K' : List Nat) (h1 : ∀ r, r ∈ R → r ≤ 70 ∧ r ∉ cRq) (h2 : ∀ r, r ∈ R' → 71 ≤ r ∧ r ≤ 98 ∧ r ∉ rRg) (h3 : ∀ k, k ∈ K' → k ∉ rKs) (hC : CI σ S) (hP : PI S) (hQ : nm Q) (ha : A σ = some (v, s)) (hf : fr R σ s) (hc : CP s (pst (sP S) p Q)) (h : ∀ σ1, RI σ1 S → ∃ s', B σ1 = some (v, s') ∧ fq R' K' σ1 s' ∧ RP s' (pst (sP S) p Q)) :
    ∃ v s S', A σ = some (v, s) ∧ okC σ s ∧ CI s S' ∧ PI S' ∧ ∀ σ1, RI σ1 S → ∃ s', B σ1 = some (v, s') ∧ okR σ1 s' ∧ RI s' S' := by
  refine ⟨v, s, setP S (pst (sP S) p Q), ha, okC_fr hf (fun r hr => (h1 r hr).1), CI_P hC (ag_fr hf (fun r hr hR => (h1 r hR).2 hr)) hc, pst_nm hP hQ, fun σ1 hR1 => ?_⟩
  obtain ⟨s', d, e, f⟩ := h σ1 hR1
  exact ⟨s', d, okR_fq e (fun r hr => ⟨(h2 r hr).1, (h2 r hr).2.1⟩), RI_P hR1 e (fun r hr hR => (h2 r hR).2.2 hr) (fun k hk hK => h3 k hK hk) f⟩
/-- a call that is refused -/
theorem SIM_n {A B : mS → Option (Int × mS)} {σ : mS} {S : aSt} {v : Int} (hC : CI σ S) (hP : PI S) (ha : A σ = some (v, σ)) (h : ∀ σ1, RI σ1 S → B σ1 = some (v, σ1)) :
    ∃ v s S', A σ = some (v, s) ∧ okC σ s ∧ CI s S' ∧ PI S' ∧ ∀ σ1, RI σ1 S → ∃ s', B σ1 = some (v, s') ∧ okR σ1 s' ∧ RI s' S' := ⟨v, σ, S, ha, okC_rfl, hC, hP, fun σ1 h1 => ⟨σ1, h σ1 h1, okR_rfl, h1⟩⟩
theorem CP_dg {N p : Nat} {σ : mS} {P : Nat → Nat → Int} {Q : Nat → Int} (hN : 1000 ≤ N) (H : CPw σ) (hp : p < 8) (h : CP σ (pst P p Q)) : f_X6_degreeOf N (p : Int) σ = some (pdg Q, σ) := X6_degreeOf_eq hN H hp (fun x hx => by rw [h p hp x hx]; unfold pst; rw [if_pos rfl])
theorem RP_dg {N p : Nat} {σ : mS} {P : Nat → Nat → Int} {Q : Nat → Int} (hN : 1000 ≤ N) (hp : p < 8) (h : RP σ (pst P p Q)) : f_X12_degree0 N (p : Int) σ = some (pdg Q, σ) := by
  rw [X12_degree0_eq hN hp h]
  unfold pst
  rw [if_pos rfl]
theorem SIM_put {N : Nat} (a b c d e : Int) (he : mw e = e) : SIM (f_X11_put N a b c d e) (f_X12_put N a b c d e) := SIM_i (fun σ S hC hP => by
  by_cases q : 0 ≤ a ∧ a < 8
  · by_cases q2 : 0 ≤ b ∧ 0 ≤ c ∧ 0 ≤ d ∧ b + c + d ≤ 8
    · obtain ⟨p, rfl⟩ : ∃ g : Nat, a = (g : Int) := ⟨a.toNat, by omega⟩
      obtain ⟨i, rfl⟩ : ∃ g : Nat, b = (g : Int) := ⟨b.toNat, by omega⟩
      obtain ⟨j, rfl⟩ : ∃ g : Nat, c = (g : Int) := ⟨c.toNat, by omega⟩
      obtain ⟨k, rfl⟩ : ∃ g : Nat, d = (g : Int) := ⟨d.toNat, by omega⟩
      obtain ⟨hx, -⟩ := ixn_ok (i := i) (j := j) (k := k) (by omega)
      have hax := ax_ixn (i := i) (j := j) (k := k) (by omega)
      have haxl := ax_lt hx
      have her := mw_rg he
      refine SIM_w (p := p) (Q := fun x => if x = ixn i j k then e % 32003 else sP S p x) (v := 1) (s := mup σ 33 p (ixn i j k) (e % 32003)) [33] [81] [] (by decide) (by decide) (by decide) hC hP (fun x hx => ?_) ?_ (fr_mup fr_rfl (by decide)) (fun p' hp' x' hx' => ?_) (fun σ1 h1 => ⟨mup σ1 81 0 (729 * p + ax (ixn i j k)) (e % 32003), ?_, fq_mup fq_rfl (by decide) (by decide), fun p' hp' a' ha' => ?_⟩)
      · try dsimp only
        split
        · exact md_lt _
        · exact hP p (by omega) x hx
      · unfold f_X11_put
        rw [X6_has_eq, if_pos q, Option.bind_some]
        try dsimp only
        rw [if_neg (by decide), X7_are_eq, if_pos q2, Option.bind_some]
        try dsimp only
        rw [if_neg (by decide), if_pos q, X7_indexOf_eq (by omega), Option.bind_some]
        try dsimp only
        rw [X11_leftOver_eq he, Option.bind_some]
        try dsimp only
        rw [if_pos (by omega), tN, tN]
      · by_cases ep : p' = p
        · subst ep
          unfold pst
          rw [if_pos rfl]
          by_cases ex : x' = ixn i j k
          · subst ex; rw [mup_s, if_pos rfl]
          · rw [mup_k ex, if_neg ex]; exact hC.2.2.2.2.2.2.1 p' hp' x' hx'
        · unfold pst
          rw [if_neg ep, mup_i ep]
          exact hC.2.2.2.2.2.2.1 p' hp' x' hx'
      · unfold f_X12_put f_X12_at
        rw [X12_isP_eq, if_pos q, Option.bind_some]
        try dsimp only
        rw [if_neg (by decide), X12_are_eq, if_pos q2, Option.bind_some]
        try dsimp only
        rw [if_neg (by decide), Option.bind_some]
        try dsimp only
        rw [X12_left_eq (mx_small (by omega) (by omega)), Option.bind_some]
        try dsimp only
        have x1 : mw ((mw ((mw ((81 : Int) * (i : Int))) + (mw ((9 : Int) * (j : Int))))) + (k : Int)) = ((ax (ixn i j k) : Nat) : Int) := by
          rw [show mw ((81 : Int) * (i : Int)) = 81 * (i : Int) from mw_id (by omega) (by omega), show mw ((9 : Int) * (j : Int)) = 9 * (j : Int) from mw_id (by omega) (by omega), show mw (81 * (i : Int) + 9 * (j : Int)) = 81 * (i : Int) + 9 * (j : Int) from mw_id (by omega) (by omega), mw_id (by omega) (by omega), hax]
          omega
        rw [x1, mw729 (by omega) haxl, if_pos (by omega), tN]
      · have hold := h1.2.2.2.2.1 p' hp' a' ha'
        by_cases ep : p' = p
        · subst ep
          unfold pst
          rw [if_pos rfl]
          by_cases ea : a' = ax (ixn i j k)
          · subst ea
            rw [mup_s, PR_ax _ hx, if_pos rfl]
          · rw [mup_k (by omega), hold]
            unfold PR
            by_cases hd : dg a' ≤ 8
            · rw [if_pos hd, if_pos hd]
              try dsimp only
              rw [if_neg (fun z => ea (by rw [← z, ax_xa ha' hd]))]
            · rw [if_neg hd, if_neg hd]
        · unfold pst
          rw [if_neg ep, mup_k (by omega)]
          exact hold
    · refine SIM_n (v := 0) hC hP ?_ (fun σ1 h1 => ?_)
      · unfold f_X11_put
        rw [X6_has_eq, if_pos q, Option.bind_some]
        try dsimp only
        rw [if_neg (by decide), X7_are_eq, if_neg q2, Option.bind_some]
        try dsimp only
        rw [if_pos rfl]
      · unfold f_X12_put
        rw [X12_isP_eq, if_pos q, Option.bind_some]
        try dsimp only
        rw [if_neg (by decide), X12_are_eq, if_neg q2, Option.bind_some]
        try dsimp only
        rw [if_pos rfl]
  · refine SIM_n (v := 0) hC hP ?_ (fun σ1 h1 => ?_)
    · unfold f_X11_put
      rw [X6_has_eq, if_neg q, Option.bind_some]
      try dsimp only
      rw [if_pos rfl]
    · unfold f_X12_put
      rw [X12_isP_eq, if_neg q, Option.bind_some]
      try dsimp only
      rw [if_pos rfl])
theorem SIM_sum {N : Nat} (hN : 1000 ≤ N) (a b c d e : Int) (hc : mw c = c) (he : mw e = e) : SIM (f_X11_sum N a b c d e) (f_X12_sum N a b c d e) := SIM_i (fun σ S hC hP => by
  by_cases q : 0 ≤ a ∧ a < 8
  · by_cases q2 : 0 ≤ b ∧ b < 8
    · by_cases q3 : 0 ≤ d ∧ d < 8
      · obtain ⟨p, rfl⟩ : ∃ g : Nat, a = (g : Int) := ⟨a.toNat, by omega⟩
        obtain ⟨i, rfl⟩ : ∃ g : Nat, b = (g : Int) := ⟨b.toNat, by omega⟩
        obtain ⟨j, rfl⟩ : ∃ g : Nat, d = (g : Int) := ⟨d.toNat, by omega⟩
        obtain ⟨s, e1, e2, e3⟩ := X6_combine_eq (N := N) (p := p) (q := i) (r := j) (n := c % 32003) (m := e % 32003) hN (by omega) (by omega) (by omega) hC.2.2.2.2.2.2.1 (hP i (by omega)) (hP j (by omega)) (by omega) (by omega)
        refine SIM_w (p := p) (Q := sumP (sP S i) (c % 32003) (sP S j) (e % 32003)) (v := pdg (sumP (sP S i) (c % 32003) (sP S j) (e % 32003))) (s := s) [33] [81] [] (by decide) (by decide) (by decide) hC hP (fun x hx => md_lt _) ?_ e2 e3 (fun σ1 h1 => ?_)
        · unfold f_X11_sum
          rw [X6_has_eq, if_pos q, Option.bind_some]
          try dsimp only
          rw [if_neg (by decide), X6_has_eq, if_pos q2, Option.bind_some]
          try dsimp only
          rw [if_neg (by decide), X6_has_eq, if_pos q3, Option.bind_some]
          try dsimp only
          rw [if_neg (by decide), X11_leftOver_eq hc, Option.bind_some]
          try dsimp only
          rw [X11_leftOver_eq he, Option.bind_some]
          try dsimp only
          rw [e1, Option.bind_some, CP_dg hN (CPw_ag hC.2.2.2.1 (ag_fr e2 (by decide))) (by omega) e3, Option.bind_some]
        · obtain ⟨s', f1, f2⟩ := X12_sum_lp (N := N) (p := p) (q := i) (r := j) (n := c) (m := e) hN (by omega) (by omega) (by omega) h1.2.2.2.2.1 (hP i (by omega)) (hP j (by omega)) hc he
          have hR := RP_rwP (A := sumP (sP S i) (c % 32003) (sP S j) (e % 32003)) h1.2.2.2.2.1 f2 (fun _ a _ => rfl)
          refine ⟨s', ?_, fq_of f2.1 (by decide), hR⟩
          unfold f_X12_sum
          rw [X12_isP_eq, if_pos q, Option.bind_some]
          try dsimp only
          rw [if_neg (by decide), X12_isP_eq, if_pos q2, Option.bind_some]
          try dsimp only
          rw [if_neg (by decide), X12_isP_eq, if_pos q3, Option.bind_some]
          try dsimp only
          rw [if_neg (by decide), f1, Option.bind_some, RP_dg hN (by omega) hR, Option.bind_some]
      · refine SIM_n (v := -2) hC hP ?_ (fun σ1 h1 => ?_)
        · unfold f_X11_sum
          rw [X6_has_eq, if_pos q, Option.bind_some]
          try dsimp only
          rw [if_neg (by decide), X6_has_eq, if_pos q2, Option.bind_some]
          try dsimp only
          rw [if_neg (by decide), X6_has_eq, if_neg q3, Option.bind_some]
          try dsimp only
          rw [if_pos rfl]
        · unfold f_X12_sum
          rw [X12_isP_eq, if_pos q, Option.bind_some]
          try dsimp only
          rw [if_neg (by decide), X12_isP_eq, if_pos q2, Option.bind_some]
          try dsimp only
          rw [if_neg (by decide), X12_isP_eq, if_neg q3, Option.bind_some]
          try dsimp only
          rw [if_pos rfl]
    · refine SIM_n (v := -2) hC hP ?_ (fun σ1 h1 => ?_)
      · unfold f_X11_sum
        rw [X6_has_eq, if_pos q, Option.bind_some]
        try dsimp only
        rw [if_neg (by decide), X6_has_eq, if_neg q2, Option.bind_some]
        try dsimp only
        rw [if_pos rfl]
      · unfold f_X12_sum
        rw [X12_isP_eq, if_pos q, Option.bind_some]
        try dsimp only
        rw [if_neg (by decide), X12_isP_eq, if_neg q2, Option.bind_some]
        try dsimp only
        rw [if_pos rfl]
  · refine SIM_n (v := -2) hC hP ?_ (fun σ1 h1 => ?_)
    · unfold f_X11_sum
      rw [X6_has_eq, if_neg q, Option.bind_some]
      try dsimp only
      rw [if_pos rfl]
    · unfold f_X12_sum
      rw [X12_isP_eq, if_neg q, Option.bind_some]
      try dsimp only
      rw [if_pos rfl])
theorem SIM_product {N : Nat} (hN : 1000 ≤ N) (a b c : Int) : SIM (f_X11_product N a b c) (f_X12_product_ N a b c) := SIM_i (fun σ S hC hP => by
  by_cases q : 0 ≤ a ∧ a < 8
  · by_cases q2 : 0 ≤ b ∧ b < 8
    · by_cases q3 : 0 ≤ c ∧ c < 8
      · obtain ⟨p, rfl⟩ : ∃ g : Nat, a = (g : Int) := ⟨a.toNat, by omega⟩
        obtain ⟨i, rfl⟩ : ∃ g : Nat, b = (g : Int) := ⟨b.toNat, by omega⟩
        obtain ⟨j, rfl⟩ : ∃ g : Nat, c = (g : Int) := ⟨c.toNat, by omega⟩
        have r1 := pdg_rg (sP S i)
        have r2 := pdg_rg (sP S j)
        have hw : mw (pdg (sP S i) + pdg (sP S j)) = pdg (sP S i) + pdg (sP S j) := mw_id (by omega) (by omega)
        have d1 := X6_degreeOf_eq (N := N) hN hC.2.2.2.1 (show i < 8 by omega) (hC.2.2.2.2.2.2.1 i (by omega))
        have d2 := X6_degreeOf_eq (N := N) hN hC.2.2.2.1 (show j < 8 by omega) (hC.2.2.2.2.2.2.1 j (by omega))
        by_cases q4 : pdg (sP S i) + pdg (sP S j) ≤ 8
        · obtain ⟨s, e1, e2, e3⟩ := X6_multiply_eq (N := N) (p := p) (q := i) (r := j) hN hC.2.2.2.1 (by omega) (by omega) (by omega) hC.2.2.2.2.2.2.1 (hP i (by omega)) (hP j (by omega)) q4
          refine SIM_w (p := p) (Q := mulP (sP S i) (sP S j)) (v := pdg (mulP (sP S i) (sP S j))) (s := s) [33, 34] [81] [] (by decide) (by decide) (by decide) hC hP (fun x hx => md_lt _) ?_ e2 e3 (fun σ1 h1 => ?_)
          · unfold f_X11_product
            rw [X6_has_eq, if_pos q, Option.bind_some]
            try dsimp only
            rw [if_neg (by decide), X6_has_eq, if_pos q2, Option.bind_some]
            try dsimp only
            rw [if_neg (by decide), X6_has_eq, if_pos q3, Option.bind_some]
            try dsimp only
            rw [if_neg (by decide), d1, Option.bind_some]
            try dsimp only
            rw [d2, Option.bind_some]
            try dsimp only
            rw [hw, if_pos q4, e1, Option.bind_some, CP_dg hN (CPw_ag hC.2.2.2.1 (ag_fr e2 (by decide))) (by omega) e3, Option.bind_some]
          · obtain ⟨s1, f1, f2, f3, f4⟩ := X12_multiply_eq (N := N) (q := i) (r := j) hN (by omega) (by omega) h1.2.2.2.2.1 (hP i (by omega)) (hP j (by omega)) q4
            obtain ⟨s', g1, g2⟩ := X12_copy_eq (N := N) (p := 8) (q := p) (σ := s1) hN (by omega) (by omega) (by omega)
            have hP1 : RP s1 (sP S) := RP_fD h1.2.2.2.2.1 (fun c hc => f3 c (Or.inl hc))
            have hR := RP_rwP (A := mulP (sP S i) (sP S j)) hP1 g2 (fun _ a ha => f4 a ha)
            refine ⟨s', ?_, fq_of (fr_trans f2 g2.1) (by decide), hR⟩
            unfold f_X12_product_
            rw [X12_isP_eq, if_pos q, Option.bind_some]
            try dsimp only
            rw [if_neg (by decide), X12_isP_eq, if_pos q2, Option.bind_some]
            try dsimp only
            rw [if_neg (by decide), X12_isP_eq, if_pos q3, Option.bind_some]
            try dsimp only
            rw [if_neg (by decide), X12_degree0_eq hN (by omega) h1.2.2.2.2.1, Option.bind_some]
            try dsimp only
            rw [X12_degree0_eq hN (by omega) h1.2.2.2.2.1, Option.bind_some]
            try dsimp only
            rw [hw, if_pos q4, f1, Option.bind_some, show (8 : Int) = ((8 : Nat) : Int) from rfl, g1, Option.bind_some, RP_dg hN (by omega) hR, Option.bind_some]
        · refine SIM_n (v := -2) hC hP ?_ (fun σ1 h1 => ?_)
          · unfold f_X11_product
            rw [X6_has_eq, if_pos q, Option.bind_some]
            try dsimp only
            rw [if_neg (by decide), X6_has_eq, if_pos q2, Option.bind_some]
            try dsimp only
            rw [if_neg (by decide), X6_has_eq, if_pos q3, Option.bind_some]
            try dsimp only
            rw [if_neg (by decide), d1, Option.bind_some]
            try dsimp only
            rw [d2, Option.bind_some]
            try dsimp only
            rw [hw, if_neg q4]
          · have t1 := X12_degree0_eq (N := N) hN (show i < 8 by omega) h1.2.2.2.2.1
            have t2 := X12_degree0_eq (N := N) hN (show j < 8 by omega) h1.2.2.2.2.1
            unfold f_X12_product_
            rw [X12_isP_eq, if_pos q, Option.bind_some]
            try dsimp only
            rw [if_neg (by decide), X12_isP_eq, if_pos q2, Option.bind_some]
            try dsimp only
            rw [if_neg (by decide), X12_isP_eq, if_pos q3, Option.bind_some]
            try dsimp only
            rw [if_neg (by decide), t1, Option.bind_some]
            try dsimp only
            rw [t2, Option.bind_some]
            try dsimp only
            rw [hw, if_neg q4, t1, Option.bind_some]
            try dsimp only
            rw [if_neg (by omega), t2, Option.bind_some]
            try dsimp only
            rw [if_neg (by omega)]
      · refine SIM_n (v := -2) hC hP ?_ (fun σ1 h1 => ?_)
        · unfold f_X11_product
          rw [X6_has_eq, if_pos q, Option.bind_some]
          try dsimp only
          rw [if_neg (by decide), X6_has_eq, if_pos q2, Option.bind_some]
          try dsimp only
          rw [if_neg (by decide), X6_has_eq, if_neg q3, Option.bind_some]
          try dsimp only
          rw [if_pos rfl]
        · unfold f_X12_product_
          rw [X12_isP_eq, if_pos q, Option.bind_some]
          try dsimp only
          rw [if_neg (by decide), X12_isP_eq, if_pos q2, Option.bind_some]
          try dsimp only
          rw [if_neg (by decide), X12_isP_eq, if_neg q3, Option.bind_some]
          try dsimp only
          rw [if_pos rfl]
    · refine SIM_n (v := -2) hC hP ?_ (fun σ1 h1 => ?_)
      · unfold f_X11_product
        rw [X6_has_eq, if_pos q, Option.bind_some]
        try dsimp only
        rw [if_neg (by decide), X6_has_eq, if_neg q2, Option.bind_some]
        try dsimp only
        rw [if_pos rfl]
      · unfold f_X12_product_
        rw [X12_isP_eq, if_pos q, Option.bind_some]
        try dsimp only
        rw [if_neg (by decide), X12_isP_eq, if_neg q2, Option.bind_some]
        try dsimp only
        rw [if_pos rfl]
  · refine SIM_n (v := -2) hC hP ?_ (fun σ1 h1 => ?_)
    · unfold f_X11_product
      rw [X6_has_eq, if_neg q, Option.bind_some]
      try dsimp only
      rw [if_pos rfl]
    · unfold f_X12_product_
      rw [X12_isP_eq, if_neg q, Option.bind_some]
      try dsimp only
      rw [if_pos rfl])
theorem SIM_turned {N : Nat} (hN : 1000 ≤ N) (a b c : Int) : SIM (f_X11_turned N a b c) (f_X12_turned N a b c) := SIM_i (fun σ S hC hP => by
  have hn := CI_n hC
  have h48 := CI_48 hC
  by_cases q : 0 ≤ a ∧ a < 8
  · by_cases q2 : 0 ≤ b ∧ b < 8
    · by_cases q3 : 0 ≤ c ∧ c < (sn S : Int)
      · obtain ⟨p, rfl⟩ : ∃ g : Nat, a = (g : Int) := ⟨a.toNat, by omega⟩
        obtain ⟨i, rfl⟩ : ∃ g : Nat, b = (g : Int) := ⟨b.toNat, by omega⟩
        obtain ⟨g, rfl⟩ : ∃ g : Nat, c = (g : Int) := ⟨c.toNat, by omega⟩
        have hg : g < sn S := by omega
        obtain ⟨s, e1, e2, e3⟩ := X6_turnInto_eq (N := N) (p := p) (q := i) (y := g) hN hC.2.2.2.1 (by omega) (by omega) hC.2.2.2.2.2.2.1 (hP i (by omega)) ((CI_G hC).2.2.1 g hg) (CI_E hC g hg)
        refine SIM_w (p := p) (Q := fun k => tvp (sE S g) 1 (sP S i) 165 k % 32003) (v := pdg (fun k => tvp (sE S g) 1 (sP S i) 165 k % 32003)) (s := s) [33, 34, 41] [81] [14, 15, 16, 17] (by decide) (by decide) (by decide) hC hP (fun x hx => md_lt _) ?_ e2 e3 (fun σ1 h1 => ?_)
        · unfold f_X11_turned
          rw [X6_has_eq, if_pos q, Option.bind_some]
          try dsimp only
          rw [if_neg (by decide), X6_has_eq, if_pos q2, Option.bind_some]
          try dsimp only
          rw [if_neg (by decide), X1_has_eq hn, if_pos q3, Option.bind_some]
          try dsimp only
          rw [if_neg (by decide), if_pos (by omega), tN, e1, Option.bind_some, CP_dg hN (CPw_ag hC.2.2.2.1 (ag_fr e2 (by decide))) (by omega) e3, Option.bind_some]
        · obtain ⟨s0, s1, f1, f2, f3, f4, f5, f6⟩ := X12_turn1_eq (N := N) (q := i) (z := 1) hN (RI_G h1) hg (by omega) h1.2.2.2.2.1 (hP i (by omega)) (Or.inl rfl)
          obtain ⟨s', g1, g2⟩ := X12_copy_eq (N := N) (p := 8) (q := p) (σ := s1) hN (by omega) (by omega) (by omega)
          have hR := RP_rwP (A := fun k => tvp (sE S g) 1 (sP S i) 165 k % 32003) f5 g2 (fun _ a ha => f6 a ha)
          refine ⟨s', ?_, fq_trans f4 (fq_sub (fq_of g2.1 (by decide)) (fun r hr => hr) (fun k hk => absurd hk (by simp))), hR⟩
          unfold f_X12_turned
          rw [X12_isP_eq, if_pos q, Option.bind_some]
          try dsimp only
          rw [if_neg (by decide), X12_isP_eq, if_pos q2, Option.bind_some]
          try dsimp only
          rw [if_neg (by decide), X12_isE_eq (RI_G h1).1 h48, if_pos q3, Option.bind_some]
          try dsimp only
          rw [if_neg (by decide), f1, Option.bind_some, f3, Option.bind_some, show (8 : Int) = ((8 : Nat) : Int) from rfl, g1, Option.bind_some, RP_dg hN (by omega) hR, Option.bind_some]
      · refine SIM_n (v := -2) hC hP ?_ (fun σ1 h1 => ?_)
        · unfold f_X11_turned
          rw [X6_has_eq, if_pos q, Option.bind_some]
          try dsimp only
          rw [if_neg (by decide), X6_has_eq, if_pos q2, Option.bind_some]
          try dsimp only
          rw [if_neg (by decide), X1_has_eq hn, if_neg q3, Option.bind_some]
          try dsimp only
          rw [if_pos rfl]
        · unfold f_X12_turned
          rw [X12_isP_eq, if_pos q, Option.bind_some]
          try dsimp only
          rw [if_neg (by decide), X12_isP_eq, if_pos q2, Option.bind_some]
          try dsimp only
          rw [if_neg (by decide), X12_isE_eq (RI_G h1).1 h48, if_neg q3, Option.bind_some]
          try dsimp only
          rw [if_pos rfl]
    · refine SIM_n (v := -2) hC hP ?_ (fun σ1 h1 => ?_)
      · unfold f_X11_turned
        rw [X6_has_eq, if_pos q, Option.bind_some]
        try dsimp only
        rw [if_neg (by decide), X6_has_eq, if_neg q2, Option.bind_some]
        try dsimp only
        rw [if_pos rfl]
      · unfold f_X12_turned
        rw [X12_isP_eq, if_pos q, Option.bind_some]
        try dsimp only
        rw [if_neg (by decide), X12_isP_eq, if_neg q2, Option.bind_some]
        try dsimp only
        rw [if_pos rfl]
  · refine SIM_n (v := -2) hC hP ?_ (fun σ1 h1 => ?_)
    · unfold f_X11_turned
      rw [X6_has_eq, if_neg q, Option.bind_some]
      try dsimp only
      rw [if_pos rfl]
    · unfold f_X12_turned
      rw [X12_isP_eq, if_neg q, Option.bind_some]
      try dsimp only
      rw [if_pos rfl])
theorem SIM_mean {N : Nat} (hN : 1000 ≤ N) (a b c : Int) : SIM (f_X11_mean N a b c) (f_X12_mean N a b c) := SIM_i (fun σ S hC hP => by
  have hn := CI_n hC
  obtain ⟨hs, h16⟩ := CI_s hC
  by_cases q : 0 ≤ a ∧ a < 8
  · by_cases q2 : 0 ≤ b ∧ b < 8
    · by_cases q3 : 0 ≤ c ∧ c < ((sc S).length : Int)
      · obtain ⟨p, rfl⟩ : ∃ g : Nat, a = (g : Int) := ⟨a.toNat, by omega⟩
        obtain ⟨i, rfl⟩ : ∃ g : Nat, b = (g : Int) := ⟨b.toNat, by omega⟩
        obtain ⟨g, rfl⟩ : ∃ g : Nat, c = (g : Int) := ⟨c.toNat, by omega⟩
        obtain ⟨s, e1, e2, e3⟩ := X6_average_eq (N := N) (p := p) (q := i) (c := g) hN hC.2.2.2.1 (by omega) (by omega) hC.2.2.2.2.2.2.1 (hP i (by omega)) hn (CI_G hC) (CI_E hC) (CI_sg hC (by omega))
        refine SIM_w (p := p) (Q := meanP (sE S) (sn S) (sg S g) (sP S i)) (v := pdg (meanP (sE S) (sn S) (sg S g) (sP S i))) (s := s) [33, 34, 41] [81] [14, 15, 16, 17] (by decide) (by decide) (by decide) hC hP (fun x hx => md_lt _) ?_ e2 e3 (fun σ1 h1 => ?_)
        · unfold f_X11_mean
          rw [X6_has_eq, if_pos q, Option.bind_some]
          try dsimp only
          rw [if_neg (by decide), X6_has_eq, if_pos q2, Option.bind_some]
          try dsimp only
          rw [if_neg (by decide), X9_has_eq hs, if_pos q3, Option.bind_some]
          try dsimp only
          rw [if_neg (by decide), if_pos (by omega), tN, e1, Option.bind_some, CP_dg hN (CPw_ag hC.2.2.2.1 (ag_fr e2 (by decide))) (by omega) e3, Option.bind_some]
        · obtain ⟨s1, f1, f2, f3, f4⟩ := X12_mean0_eq (N := N) (q := i) (c := g) hN (RI_G h1) (by omega) (by omega) h1.2.2.2.2.1 (hP i (by omega)) (RI_sg hC h1 (by omega))
          obtain ⟨s', g1, g2⟩ := X12_copy_eq (N := N) (p := 8) (q := p) (σ := s1) hN (by omega) (by omega) (by omega)
          have hR := RP_rwP (A := meanP (sE S) (sn S) (sg S g) (sP S i)) f3 g2 (fun _ a ha => f4 a ha)
          refine ⟨s', ?_, fq_trans f2 (fq_sub (fq_of g2.1 (by decide)) (fun r hr => hr) (fun k hk => absurd hk (by simp))), hR⟩
          unfold f_X12_mean
          rw [X12_isP_eq, if_pos q, Option.bind_some]
          try dsimp only
          rw [if_neg (by decide), X12_isP_eq, if_pos q2, Option.bind_some]
          try dsimp only
          rw [if_neg (by decide), X12_isS_eq h1.2.2.1.1 h16, if_pos q3, Option.bind_some]
          try dsimp only
          rw [if_neg (by decide), f1, Option.bind_some, show (8 : Int) = ((8 : Nat) : Int) from rfl, g1, Option.bind_some, RP_dg hN (by omega) hR, Option.bind_some]
      · refine SIM_n (v := -2) hC hP ?_ (fun σ1 h1 => ?_)
        · unfold f_X11_mean
          rw [X6_has_eq, if_pos q, Option.bind_some]
          try dsimp only
          rw [if_neg (by decide), X6_has_eq, if_pos q2, Option.bind_some]
          try dsimp only
          rw [if_neg (by decide), X9_has_eq hs, if_neg q3, Option.bind_some]
          try dsimp only
          rw [if_pos rfl]
        · unfold f_X12_mean
          rw [X12_isP_eq, if_pos q, Option.bind_some]
          try dsimp only
          rw [if_neg (by decide), X12_isP_eq, if_pos q2, Option.bind_some]
          try dsimp only
          rw [if_neg (by decide), X12_isS_eq h1.2.2.1.1 h16, if_neg q3, Option.bind_some]
          try dsimp only
          rw [if_pos rfl]
    · refine SIM_n (v := -2) hC hP ?_ (fun σ1 h1 => ?_)
      · unfold f_X11_mean
        rw [X6_has_eq, if_pos q, Option.bind_some]
        try dsimp only
        rw [if_neg (by decide), X6_has_eq, if_neg q2, Option.bind_some]
        try dsimp only
        rw [if_pos rfl]
      · unfold f_X12_mean
        rw [X12_isP_eq, if_pos q, Option.bind_some]
        try dsimp only
        rw [if_neg (by decide), X12_isP_eq, if_neg q2, Option.bind_some]
        try dsimp only
        rw [if_pos rfl]
  · refine SIM_n (v := -2) hC hP ?_ (fun σ1 h1 => ?_)
    · unfold f_X11_mean
      rw [X6_has_eq, if_neg q, Option.bind_some]
      try dsimp only
      rw [if_pos rfl]
    · unfold f_X12_mean
      rw [X12_isP_eq, if_neg q, Option.bind_some]
      try dsimp only
      rw [if_pos rfl])
