/-! the reference's COUNT -/
theorem ct_to {p : Nat → Bool} {m : Nat} : ∀ n, m ≤ n → (∀ k, m ≤ k → k < n → p k = false) → ct p n = ct p m
  | 0, h, _ => by
    have : m = 0 := by omega
    rw [this]
  | n + 1, h, hz => by
    by_cases e : m = n + 1
    · rw [e]
    · rw [ct_s, hz n (by omega) (by omega), ct_to n (by omega) (fun k h1 h2 => hz k h1 (by omega))]
      simp
theorem ct_one {p : Nat → Bool} {a x m : Nat} (h1 : a ≤ x) (h2 : x < a + m) (h : ∀ k, a ≤ k → k < a + m → k ≠ x → p k = false) : ct p (a + m) = ct p a + (if p x = true then 1 else 0) := by
  rw [ct_to (m := x + 1) (a + m) (by omega) (fun k q1 q2 => h k (by omega) q2 (by omega)), ct_s, ct_to (m := a) x h1 (fun k q1 q2 => h k q1 (by omega) (by omega))]
def cRp (E : Nat → tn) (n : Nat) (sg : Nat → Int) (d a : Nat) : Bool := decide (dg a = d) && cnb E n sg (xa a)
theorem cR_cnt {E : Nat → tn} {n : Nat} {sg : Nat → Int} {d : Nat} (hd : d ≤ 8) : ct (cRp E n sg d) 729 = cnt E n sg d := by
  obtain ⟨w1, w2⟩ := wd_ok2 d (List.mem_range.mpr (by omega))
  unfold cnt
  generalize hW : (d + 1) * (d + 2) / 2 = W at w1
  have hdeg : ∀ x, x < 165 → (pD x = d ↔ fst9 d ≤ x ∧ x < fst9 (d + 1)) := fun x hx => by
    have a := (fst_ok d (List.mem_range.mpr (by omega))).2 x (List.mem_range.mpr hx)
    have b := (fst_ok (d + 1) (List.mem_range.mpr (by omega))).2 x (List.mem_range.mpr hx)
    omega
  have e1 := sm_ct 1 (cRp E n sg d) 729
  have e2 := sm_ct 1 (fun y => cnb E n sg (fst9 d + y)) W
  have e3 : sm (fun y => (fun a => if cRp E n sg d a = true then (1 : Int) else 0) (ax (fst9 d + y))) W = sm (fun a => if cRp E n sg d a = true then (1 : Int) else 0) 729 := sm_re (F := fun a => if cRp E n sg d a = true then (1 : Int) else 0) (u := fun y => ax (fst9 d + y)) (fun y hy => ax_lt (by omega)) (fun y z hy hz h => by
    have := ax_inj (show fst9 d + y < 165 by omega) (show fst9 d + z < 165 by omega) h
    omega) (fun a ha h => by
    refine if_neg (fun z => ?_)
    unfold cRp at z
    rw [Bool.and_eq_true] at z
    have hda := of_decide_eq_true z.1
    have hx := xa_lt ha (by omega)
    have hp : pD (xa a) = d := by rw [← dg_ax hx, ax_xa ha (by omega)]; exact hda
    obtain ⟨q1, q2⟩ := (hdeg _ hx).mp hp
    refine h (xa a - fst9 d) (by omega) ?_
    show ax (fst9 d + (xa a - fst9 d)) = a
    rw [show fst9 d + (xa a - fst9 d) = xa a from by omega, ax_xa ha (by omega)])
  have e4 : sm (fun y => (fun a => if cRp E n sg d a = true then (1 : Int) else 0) (ax (fst9 d + y))) W = sm (fun y => if cnb E n sg (fst9 d + y) = true then (1 : Int) else 0) W := sm_cg W (fun y hy => by
    have hx : fst9 d + y < 165 := by omega
    have hp := (hdeg _ hx).mpr ⟨by omega, by omega⟩
    show (if cRp E n sg d (ax (fst9 d + y)) = true then (1 : Int) else 0) = _
    unfold cRp
    rw [xa_ax hx, dg_ax hx, hp, decide_eq_true rfl, Bool.true_and])
  rw [e1, e4, e2] at e3
  omega
theorem X12_counts_eq {N i j k c n : Nat} {E : Nat → tn} {sg : Nat → Int} {σ : mS} (hN : 1000 ≤ N) (H : RG σ E n) (h : i + j + k ≤ 8) (hc : c < 16) (hsg : ∀ g, g < n → σ 79 0 (48 * c + g) = sg g ∧ (sg g = 1 ∨ sg g = -1)) (hmul : ∀ g h, g < n → h < n → sg (gm E n g h) = sg g * sg h) :
    ∃ σ', f_X12_counts N (i : Int) (j : Int) (k : Int) (c : Int) σ = some (bi (cnb E n sg (ixn i j k)), σ') ∧ fq [] [14, 15, 16, 17] σ σ' := by
  have h48 := RG_48 H
  have hG := H.2.2
  obtain ⟨w1, wI, wJ, wK⟩ := ixn_ok h
  have wax := ax_ixn h
  generalize hx : ixn i j k = x at w1 wI wJ wK wax
  have hlex : ∀ g, g < n → (ax (tX (E g) x) ≤ ax x ↔ x ≤ tX (E g) x) := fun g hg => by
    have ht := hG.2.2.1 g hg
    exact ax_ord _ (List.mem_range.mpr (tX_lt ht w1)) _ (List.mem_range.mpr w1) (tX_d ht w1)
  have hbd : ∀ g, g ≤ n → -(g : Int) ≤ sm (chs E sg x) g ∧ sm (chs E sg x) g ≤ g := by
    intro g
    induction g with
    | zero => intro _; show -((0 : Nat) : Int) ≤ 0 ∧ (0 : Int) ≤ ((0 : Nat) : Int); omega
    | succ g ih =>
      intro hg
      have := ih (by omega)
      rw [sm_s]
      have hpm : -1 ≤ chs E sg x g ∧ chs E sg x g ≤ 1 := by
        unfold chs
        split
        · rcases tS_pm (E g) x with a | a <;> rcases (hsg g (by omega)).2 with b | b <;> rw [a, b] <;> decide
        · omega
      omega
  obtain ⟨o, e, hP⟩ := lp2_0 (L := fun f g a s => L_X12_counts_6 N f (i : Int) (j : Int) (k : Int) (c : Int) a g s) (I := fun g a s => fq [] [14, 15, 16, 17] σ s ∧ a = sm (chs E sg x) g ∧ ∀ g', g' < g → x ≤ tX (E g') x) (P := fun o => ∃ s', fq [] [14, 15, 16, 17] σ s' ∧ ((o = .inr (sm (chs E sg x) n, s') ∧ ∀ g', g' < n → x ≤ tX (E g') x) ∨ (o = .inl (0, s') ∧ ∃ g', g' < n ∧ tX (E g') x < x))) n (fun f g a s hg hI => by
      obtain ⟨h1, h2, h3⟩ := hI
      subst h2
      have Hs := RG_fq H h1 (by simp) (by decide)
      have ht := hG.2.2.1 g hg
      have hX := tX_lt ht w1
      obtain ⟨g1, g2⟩ := hsg g hg
      obtain ⟨s2, t1, t2, t3⟩ := X12_turns_eq (N := N) (g := g) (x := x) (by omega) Hs hg w1
      rw [wI, wJ, wK] at t1
      have f2 := fq_trans h1 t3
      have hax : 81 * tq (E g) x 0 + 9 * tq (E g) x 1 + tq (E g) x 2 = ax (tX (E g) x) := (ax_ixn (tq_sum ht w1)).symm
      have b1 := hbd g (by omega)
      have htq : (tq (E g) x 0 = i ∧ tq (E g) x 1 = j ∧ tq (E g) x 2 = k) ↔ tX (E g) x = x := by
        have e0 : pI (tX (E g) x) = tq (E g) x 0 := pe_tX ht w1 (show 0 < 3 by decide)
        have e1 : pJ (tX (E g) x) = tq (E g) x 1 := pe_tX ht w1 (show 1 < 3 by decide)
        have e2 : pK (tX (E g) x) = tq (E g) x 2 := pe_tX ht w1 (show 2 < 3 by decide)
        constructor
        · rintro ⟨a, b, c⟩
          unfold tX
          rw [a, b, c, hx]
        · intro z
          rw [← e0, ← e1, ← e2, z]
          exact ⟨wI, wJ, wK⟩
      try dsimp only
      rw [L_X12_counts_6_s, Hs.1, if_neg (by omega), t1, Option.bind_some, t2.1, t2.2.1, t2.2.2.1, at_eq (tq_sum ht w1), Option.bind_some, hax]
      try dsimp only
      rw [at_eq h, Option.bind_some, ← wax]
      try dsimp only
      rw [mw48 hc (by omega), tN, f2.1 79 _ _ (by simp) (by decide), g1, mw_s (by omega), t2.2.2.2]
      have u0 := t2.1
      have u1 := t2.2.1
      have u2 := t2.2.2.1
      by_cases q : x ≤ tX (E g) x
      · rw [if_pos (by have := (hlex g hg).mpr q; omega)]
        have nxt : ∀ g', g' < g + 1 → x ≤ tX (E g') x := fun g' hg' => by
          by_cases eg : g' = g
          · subst eg; exact q
          · exact h3 g' (by omega)
        left
        by_cases qs : tX (E g) x = x
        · obtain ⟨a0, a1, a2⟩ := htq.mpr qs
          have hpm : mw (tS (E g) x * sg g) = tS (E g) x * sg g := mw_pm (tS_pm _ _) g2
          have hch : chs E sg x g = tS (E g) x * sg g := by unfold chs; rw [if_pos qs]
          rw [if_pos (by omega), if_pos (by omega), if_pos (by omega), if_pos (by omega), hpm, ← hch, mw_id (by have := hbd (g + 1) (by omega); rw [sm_s] at this; omega) (by have := hbd (g + 1) (by omega); rw [sm_s] at this; omega)]
          exact ⟨_, s2, rfl, f2, rfl, nxt⟩
        · have hch : chs E sg x g = 0 := by unfold chs; rw [if_neg qs]
          have hsm : sm (chs E sg x) (g + 1) = sm (chs E sg x) g := by rw [sm_s, hch, Int.add_zero]
          by_cases a0 : tq (E g) x 0 = i
          · rw [if_pos (by omega)]
            by_cases a1 : tq (E g) x 1 = j
            · rw [if_pos (by omega)]
              by_cases a2 : tq (E g) x 2 = k
              · exact absurd (htq.mp ⟨a0, a1, a2⟩) qs
              · rw [if_neg (by omega)]
                exact ⟨_, s2, rfl, f2, hsm.symm, nxt⟩
            · rw [if_neg (by omega)]
              exact ⟨_, s2, rfl, f2, hsm.symm, nxt⟩
          · rw [if_neg (by omega)]
            exact ⟨_, s2, rfl, f2, hsm.symm, nxt⟩
      · rw [if_neg (fun z => q ((hlex g hg).mp (by omega)))]
        exact Or.inr ⟨_, rfl, s2, f2, Or.inr ⟨rfl, g, hg, by omega⟩⟩) (fun f a s hI => by
      obtain ⟨h1, h2, h3⟩ := hI
      subst h2
      have Hs := RG_fq H h1 (by simp) (by decide)
      try dsimp only
      rw [L_X12_counts_6_s, Hs.1, if_pos (by omega)]
      exact ⟨_, rfl, s, h1, Or.inl ⟨rfl, h3⟩⟩) (f := N) (a := 0) (s := σ) (by omega) ⟨fq_rfl, rfl, fun g' h => absurd h (Nat.not_lt_zero _)⟩
  obtain ⟨s', f1, hP⟩ := hP
  refine ⟨s', ?_, f1⟩
  unfold f_X12_counts
  try dsimp only at e
  rw [e, Option.bind_some]
  rcases hP with ⟨rfl, hall⟩ | ⟨rfl, g, hg, hlt⟩
  · try dsimp only
    by_cases hex : ∃ g, g < n ∧ tX (E g) x = x ∧ tS (E g) x * sg g = -1
    · obtain ⟨g, hg, q1, q2⟩ := hex
      rw [if_pos (chs_0 hG w1 hg (fun a ha => hmul a g ha hg) q1 q2)]
      have : cnb E n sg x = false := alb_no (k := g) (by
        try dsimp only
        rw [decide_eq_false (show ¬ tX (E g) x ≠ x from fun z => z q1), decide_eq_false (show ¬ tS (E g) x * sg g = 1 by rw [q2]; decide), Bool.or_false, Bool.and_false]) hg
      rw [this]; rfl
    · have hone : ∀ g, g < n → tX (E g) x = x → tS (E g) x * sg g = 1 := fun g hg q => by
        have hss : tS (E g) x * sg g = 1 ∨ tS (E g) x * sg g = -1 := by rcases tS_pm (E g) x with a | a <;> rcases (hsg g hg).2 with b | b <;> rw [a, b] <;> decide
        rcases hss with a | a
        · exact a
        · exact absurd ⟨g, hg, q, a⟩ hex
      have hpos := chs_n hone hG w1
      rw [if_neg (by omega)]
      have : cnb E n sg x = true := alb_of (fun g hg => by
        rw [decide_eq_true (hall g hg), Bool.true_and]
        by_cases q : tX (E g) x = x
        · rw [decide_eq_true (hone g hg q), Bool.or_true]
        · rw [decide_eq_true q, Bool.true_or])
      rw [this]; rfl
  · try dsimp only
    have : cnb E n sg x = false := alb_no (k := g) (by
      try dsimp only
      rw [decide_eq_false (show ¬ x ≤ tX (E g) x by omega), Bool.false_and]) hg
    rw [this]; rfl
theorem X12_count0_eq {N d c n : Nat} {E : Nat → tn} {sg : Nat → Int} {σ : mS} (hN : 1000 ≤ N) (H : RG σ E n) (hd : d ≤ 8) (hc : c < 16) (hsg : ∀ g, g < n → σ 79 0 (48 * c + g) = sg g ∧ (sg g = 1 ∨ sg g = -1)) (hmul : ∀ g h, g < n → h < n → sg (gm E n g h) = sg g * sg h) :
    ∃ σ', f_X12_count0 N (d : Int) (c : Int) σ = some ((cnt E n sg d : Int), σ') ∧ fq [] [14, 15, 16, 17] σ σ' := by
  have dgv : ∀ i j k, k < 9 → j < 9 → dg (81 * i + 9 * j + k) = i + j + k := fun i j k hk hj => by
    have e1 : (81 * i + 9 * j + k) / 81 = i := by omega
    have e2' : (81 * i + 9 * j + k) / 9 = 9 * i + j := by omega
    have e2 : (81 * i + 9 * j + k) / 9 % 9 = j := by rw [e2']; omega
    have e3 : (81 * i + 9 * j + k) % 9 = k := by omega
    unfold dg
    rw [e1, e2, e3]
  have inn : ∀ (i : Nat) (s : mS), i ≤ d → fq [] [14, 15, 16, 17] σ s → ∃ o, L_X12_count0_14 N N (d : Int) (c : Int) ((ct (cRp E n sg d) (81 * i) : Nat) : Int) (i : Int) 0 s = some o ∧ o.1 = ((ct (cRp E n sg d) (81 * (i + 1)) : Nat) : Int) ∧ fq [] [14, 15, 16, 17] σ o.2 := by
    intro i s0 hi hf0
    refine lp2_0 (L := fun f j a s => L_X12_count0_14 N f (d : Int) (c : Int) a (i : Int) j s) (I := fun j a s => a = ((ct (cRp E n sg d) (81 * i + 9 * j) : Nat) : Int) ∧ fq [] [14, 15, 16, 17] σ s) (P := fun o => o.1 = ((ct (cRp E n sg d) (81 * (i + 1)) : Nat) : Int) ∧ fq [] [14, 15, 16, 17] σ o.2) (d - i + 1) (fun f j a s hj hI => ?_) (fun f a s hI => ?_) (by omega) ⟨rfl, hf0⟩
    · obtain ⟨h1, h2⟩ := hI
      subst h1
      left
      have Hs := RG_fq H h2 (by simp) (by decide)
      have hle := ct_le (cRp E n sg d) (81 * i + 9 * j)
      obtain ⟨s2, r1, r2⟩ := X12_counts_eq (N := N) (i := i) (j := j) (k := d - i - j) (c := c) (sg := sg) hN Hs (by omega) hc (fun g hg => by rw [h2.1 79 _ _ (by simp) (by decide)]; exact hsg g hg) hmul
      have hstep := ct_one (p := cRp E n sg d) (a := 81 * i + 9 * j) (x := 81 * i + 9 * j + (d - i - j)) (m := 9) (by omega) (by omega) (fun q h1 h2 h3 => by
        obtain ⟨k', rfl⟩ : ∃ k', q = 81 * i + 9 * j + k' := ⟨q - (81 * i + 9 * j), by omega⟩
        unfold cRp
        rw [dgv i j k' (by omega) (by omega), decide_eq_false (by omega)]; rfl)
      have hb : cRp E n sg d (81 * i + 9 * j + (d - i - j)) = cnb E n sg (ixn i j (d - i - j)) := by
        unfold cRp
        rw [(xa_ijk (show i + j + (d - i - j) ≤ 8 by omega)).1, dgv i j _ (by omega) (by omega), decide_eq_true (by omega), Bool.true_and]
      rw [hb, show 81 * i + 9 * j + 9 = 81 * i + 9 * (j + 1) from by omega] at hstep
      try dsimp only
      rw [L_X12_count0_14_s, show mw ((i : Int) + (j : Int)) = ((i + j : Nat) : Int) from (by rw [mw_id (by omega) (by omega)]; omega), if_neg (by omega), show mw (mw ((d : Int) - (i : Int)) - (j : Int)) = ((d - i - j : Nat) : Int) from (by rw [mw_id (z := (d : Int) - (i : Int)) (by omega) (by omega), mw_id (by omega) (by omega)]; omega), r1, Option.bind_some]
      try dsimp only
      rw [mw_s (k := j) (by omega), mw_s (by omega), mw_0 (by omega)]
      cases hv : cnb E n sg (ixn i j (d - i - j)) with
      | true =>
        rw [hv, if_pos rfl] at hstep
        rw [if_neg (by decide)]
        exact ⟨_, s2, rfl, by rw [hstep], fq_trans h2 r2⟩
      | false =>
        rw [hv, if_neg (by decide)] at hstep
        rw [if_pos bi_f]
        exact ⟨_, s2, rfl, by rw [hstep]; rfl, fq_trans h2 r2⟩
    · obtain ⟨h1, h2⟩ := hI
      subst h1
      refine ⟨(((ct (cRp E n sg d) (81 * i + 9 * (d - i + 1)) : Nat) : Int), s), ?_, ?_, h2⟩
      · try dsimp only
        rw [L_X12_count0_14_s, show mw ((i : Int) + ((d - i + 1 : Nat) : Int)) = ((d + 1 : Nat) : Int) from (by rw [mw_id (by omega) (by omega)]; omega), if_pos (by omega)]
      · try dsimp only
        rw [ct_to (m := 81 * i + 9 * (d - i + 1)) (81 * (i + 1)) (by omega) (fun q h1 h2 => by
          obtain ⟨j', k', hk', hj', rfl⟩ : ∃ j' k', k' < 9 ∧ j' < 9 ∧ q = 81 * i + 9 * j' + k' := ⟨(q - 81 * i) / 9, (q - 81 * i) % 9, by omega, by omega, by omega⟩
          unfold cRp
          rw [dgv i j' k' hk' hj', decide_eq_false (by omega)]; rfl)]
  obtain ⟨⟨v, s'⟩, e, h1, h2⟩ := lp2_0 (L := fun f i a s => L_X12_count0_5 N f (d : Int) (c : Int) a i s) (I := fun i a s => a = ((ct (cRp E n sg d) (81 * i) : Nat) : Int) ∧ fq [] [14, 15, 16, 17] σ s) (P := fun o => o.1 = ((cnt E n sg d : Nat) : Int) ∧ fq [] [14, 15, 16, 17] σ o.2) (d + 1) (fun f i a s hi hI => by
      obtain ⟨h1, h2⟩ := hI
      subst h1
      left
      obtain ⟨⟨v, s2⟩, q1, q2, q3⟩ := inn i s (by omega) h2
      try dsimp only at q1 q2 q3 ⊢
      rw [L_X12_count0_5_s, if_neg (by omega), q1, Option.bind_some, mw_s (by omega)]
      exact ⟨v, s2, rfl, q2, q3⟩) (fun f a s hI => by
      obtain ⟨h1, h2⟩ := hI
      subst h1
      refine ⟨(((ct (cRp E n sg d) (81 * (d + 1)) : Nat) : Int), s), ?_, ?_, h2⟩
      · try dsimp only
        rw [L_X12_count0_5_s, if_pos (by omega)]
      · try dsimp only
        rw [← cR_cnt hd, ct_to (m := 81 * (d + 1)) 729 (by omega) (fun q h1 h2 => by
          obtain ⟨i', j', k', hk', hj', hi', rfl⟩ : ∃ i' j' k', k' < 9 ∧ j' < 9 ∧ d + 1 ≤ i' ∧ q = 81 * i' + 9 * j' + k' := ⟨q / 81, q % 81 / 9, q % 9, by omega, by omega, by omega, by omega⟩
          unfold cRp
          rw [dgv i' j' k' hk' hj', decide_eq_false (by omega)]; rfl)]) (f := N) (a := 0) (s := σ) (by omega) ⟨rfl, fq_rfl⟩
  try dsimp only at e h1 h2
  subst h1
  refine ⟨s', ?_, h2⟩
  unfold f_X12_count0
  rw [e]
  rfl
