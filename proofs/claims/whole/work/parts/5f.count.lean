/-! COUNT -/
/-- a lot's first, and what stays of it -/
def cnb (E : Nat → tn) (n : Nat) (sg : Nat → Int) (x : Nat) : Bool := alb (fun g => decide (x ≤ tX (E g) x) && (decide (tX (E g) x ≠ x) || decide (tS (E g) x * sg g = 1))) n
/-- among powers of one degree, the greater number stands behind -/
theorem ax_ord : ∀ x ∈ List.range 165, ∀ y ∈ List.range 165, pD x = pD y → (ax x ≤ ax y ↔ y ≤ x) := by decide +kernel
def chs (E : Nat → tn) (sg : Nat → Int) (x g : Nat) : Int := if tX (E g) x = x then tS (E g) x * sg g else 0
/-- if one that leaves the powers gives -1, the sum is 0 -/
theorem chs_0 {E : Nat → tn} {n h x : Nat} {sg : Nat → Int} (hG : GP E n) (hx : x < 165) (hh : h < n) (hmul : ∀ g, g < n → sg (gm E n g h) = sg g * sg h) (h1 : tX (E h) x = x) (h2 : tS (E h) x * sg h = -1) : sm (chs E sg x) n = 0 := by
  have e : sm (fun g => chs E sg x (gm E n g h)) n = sm (chs E sg x) n := sm_re (fun g hg => (gm_ok hG hg hh).1) (fun a b ha hb e => gm_cr hG hh ha hb e) (fun a ha hne => by
    have hv := (gv_ok hG hh).1
    refine absurd ?_ (hne (gm E n a (gv E n h)) (gm_ok hG ha hv).1)
    rw [gm_as hG ha hv hh, gm_vl hG hh, gm_r hG ha])
  have e2 : sm (fun g => chs E sg x (gm E n g h)) n = sm (fun g => -chs E sg x g) n := sm_cg n (fun g hg => by
    have hg2 := (gm_ok hG hg hh).2
    have tg := hG.2.2.1 g hg
    have th := hG.2.2.1 h hh
    show chs E sg x (gm E n g h) = -chs E sg x g
    unfold chs
    rw [hg2, tX_co tg th hx, tS_co tg th hx, hmul g hg]
    by_cases q : tX (E g) x = x
    · rw [q, if_pos h1, if_pos rfl]
      have : tS (E g) x * tS (E h) x * (sg g * sg h) = tS (E g) x * sg g * (tS (E h) x * sg h) := by
        rw [Int.mul_assoc, Int.mul_assoc, ← Int.mul_assoc (tS (E h) x), ← Int.mul_assoc (sg g), Int.mul_comm (tS (E h) x) (sg g)]
      rw [this, h2]
      omega
    · rw [if_neg q, if_neg (fun z => q (tX_inj th (tX_lt tg hx) hx (by rw [z, h1])))]
      rfl)
  rw [sm_neg] at e2
  omega
theorem chs_n {E : Nat → tn} {n x : Nat} {sg : Nat → Int} (h : ∀ g, g < n → tX (E g) x = x → tS (E g) x * sg g = 1) (hG : GP E n) (hx : x < 165) : 0 < sm (chs E sg x) n := by
  have h0 : ∀ g, g < n → 0 ≤ chs E sg x g := fun g hg => by
    unfold chs
    by_cases q : tX (E g) x = x
    · rw [if_pos q, h g hg q]; decide
    · rw [if_neg q]; omega
  have key : ∀ m, m ≤ n → 0 < m → 0 < sm (chs E sg x) m := by
    intro m
    induction m with
    | zero => intro _ h; omega
    | succ m ih =>
      intro hm _
      rw [sm_s]
      have := h0 m (by omega)
      by_cases e : m = 0
      · subst e
        have q : chs E sg x 0 = 1 := by
          have := tX_0 x (List.mem_range.mpr hx)
          unfold chs
          rw [hG.2.1, if_pos this.1]
          have h3 := h 0 hG.1 (by rw [hG.2.1]; exact this.1)
          rw [hG.2.1] at h3
          exact h3
        rw [q]
        show 0 < (0 : Int) + 1
        decide
      · have := ih (by omega) (by omega)
        omega
  exact key n (Nat.le_refl _) hG.1
theorem X6_first_eq {N x c n : Nat} {E : Nat → tn} {sg : Nat → Int} {σ : mS} (hN : 1000 ≤ N) (H : CPw σ) (hx : x < 165) (hn : σ 5 0 0 = (n : Int)) (hG : GP E n) (hE : ∀ g, g < n → elC σ g = E g) (hsg : ∀ g, g < n → σ 28 c g = sg g ∧ (sg g = 1 ∨ sg g = -1)) :
    ∃ σ', f_X6_isFirstOfLeft_r28 N (x : Int) c σ = some (bi (cnb E n sg x), σ') ∧ fr [41] σ σ' := by
  have h48 : n ≤ 48 := few48 hG.2.2.1 hG.2.2.2.1
  generalize hp : (fun g => decide (x ≤ tX (E g) x) && (decide (tX (E g) x ≠ x) || decide (tS (E g) x * sg g = 1))) = p
  have hcn : cnb E n sg x = alb p n := by rw [← hp]; rfl
  obtain ⟨o, e, h⟩ := lp_0 (S := mS) (L := fun f g s => L_X6_isFirstOfLeft_r28_3 N f (x : Int) c g s) (I := fun g s => fr [41] σ s ∧ alb p g = true) (P := fun o => ∃ s', fr [41] σ s' ∧ ((o = .inr s' ∧ alb p n = true) ∨ (o = .inl (0, s') ∧ alb p n = false))) n (fun f g s hg hI => by
      obtain ⟨h1, h2⟩ := hI
      have ht := hG.2.2.1 g hg
      have hX := tX_lt ht hx
      have hSp := tS_pm (E g) x
      obtain ⟨g1, g2⟩ := hsg g hg
      have H1 := CPw_ag H (ag_fr h1 (by decide))
      have he1 : elC s g = E g := by
        rw [← hE g hg]; unfold elC
        rw [h1 7 _ _ (by decide), h1 7 _ _ (by decide), h1 7 _ _ (by decide)]
      obtain ⟨s2, r1, r2⟩ := X7_turned_eq (N := N) (by omega) H1 hx ht he1
      have f2 := fr_trans h1 r2
      have hss : tS (E g) x * sg g = 1 ∨ tS (E g) x * sg g = -1 := by rcases hSp with a | a <;> rcases g2 with b | b <;> rw [a, b] <;> decide
      have hcd : mw (tS (E g) x * ((tX (E g) x + 1 : Nat) : Int) * sg g) = tS (E g) x * sg g * ((tX (E g) x + 1 : Nat) : Int) := by
        rw [Int.mul_assoc, Int.mul_comm ((tX (E g) x + 1 : Nat) : Int) (sg g), ← Int.mul_assoc]
        rcases hss with a | a <;> rw [a] <;> exact mw_id (by omega) (by omega)
      have hpg : p g = (decide (x ≤ tX (E g) x) && (decide (tX (E g) x ≠ x) || decide (tS (E g) x * sg g = 1))) := by rw [← hp]
      try dsimp only
      rw [L_X6_isFirstOfLeft_r28_3_s, h1 5 _ _ (by decide), hn, if_neg (by omega), if_pos (by omega), tN, r1, Option.bind_some]
      try dsimp only
      rw [X11_ixs hSp hX, Option.bind_some]
      try dsimp only
      rw [mw_s (by omega)]
      have hcd2 : mw (tS (E g) x * ((tX (E g) x + 1 : Nat) : Int) * s2 28 c g) = tS (E g) x * sg g * ((tX (E g) x + 1 : Nat) : Int) := by rw [f2 28 _ _ (by decide), g1]; exact hcd
      by_cases q1 : tX (E g) x < x
      · rw [if_pos (by omega)]
        refine Or.inr ⟨_, rfl, s2, f2, Or.inr ⟨rfl, alb_no (k := g) ?_ hg⟩⟩
        rw [hpg, decide_eq_false (by omega)]; rfl
      · rw [if_neg (by omega)]
        by_cases q2 : tX (E g) x = x
        · rw [if_pos (by omega), if_pos (by omega)]
          rcases hss with a | a
          · rw [if_pos (by rw [hcd2, a]; omega)]
            refine Or.inl ⟨s2, rfl, f2, ?_⟩
            rw [alb_s, h2, hpg, decide_eq_true (show x ≤ tX (E g) x by omega), decide_eq_true a, Bool.or_true]; rfl
          · rw [if_neg (by rw [hcd2, a]; omega)]
            refine Or.inr ⟨_, rfl, s2, f2, Or.inr ⟨rfl, alb_no (k := g) ?_ hg⟩⟩
            rw [hpg, decide_eq_false (show ¬ tX (E g) x ≠ x from fun z => z q2), decide_eq_false (show ¬ tS (E g) x * sg g = 1 by rw [a]; decide), Bool.or_false, Bool.and_false]
        · rw [if_neg (by omega)]
          refine Or.inl ⟨s2, rfl, f2, ?_⟩
          rw [alb_s, h2, hpg, decide_eq_true (show x ≤ tX (E g) x by omega), decide_eq_true q2, Bool.true_or]; rfl) (fun f s hI => by
      try dsimp only
      rw [L_X6_isFirstOfLeft_r28_3_s, hI.1 5 _ _ (by decide), hn, if_pos (by omega)]
      exact ⟨_, rfl, s, hI.1, Or.inl ⟨rfl, hI.2⟩⟩) (f := N) (s := σ) (by omega) ⟨fr_rfl, rfl⟩
  obtain ⟨s', f1, h⟩ := h
  refine ⟨s', ?_, f1⟩
  unfold f_X6_isFirstOfLeft_r28
  try dsimp only at e
  rw [e, Option.bind_some, hcn]
  rcases h with ⟨rfl, b⟩ | ⟨rfl, b⟩
  · rw [b]; rfl
  · rw [b]; rfl
/-- how many of the powers of degree d -/
def cnt (E : Nat → tn) (n : Nat) (sg : Nat → Int) (d : Nat) : Nat := ct (fun y => cnb E n sg (fst9 d + y)) ((d + 1) * (d + 2) / 2)
theorem wd_ok : ∀ d ∈ List.range 10, o_div (mw (mw ((d : Nat) + 1) * mw ((d : Nat) + 2))) 2 = (((d + 1) * (d + 2) / 2 : Nat) : Int) := by decide +kernel
theorem wd_ok2 : ∀ d ∈ List.range 9, fst9 d + (d + 1) * (d + 2) / 2 = fst9 (d + 1) ∧ fst9 (d + 1) ≤ 165 := by decide +kernel
theorem X6_count_eq {N d c n : Nat} {E : Nat → tn} {sg : Nat → Int} {σ : mS} (hN : 1000 ≤ N) (H : CPw σ) (hd : d ≤ 8) (hn : σ 5 0 0 = (n : Int)) (hG : GP E n) (hE : ∀ g, g < n → elC σ g = E g) (hsg : ∀ g, g < n → σ 28 c g = sg g ∧ (sg g = 1 ∨ sg g = -1)) :
    ∃ σ', f_X6_countLeft_r28 N (d : Int) c σ = some ((cnt E n sg d : Int), σ') ∧ fr [41] σ σ' := by
  have hw := wd_ok d (List.mem_range.mpr (by omega))
  obtain ⟨w1, w2⟩ := wd_ok2 d (List.mem_range.mpr (by omega))
  generalize hW : (d + 1) * (d + 2) / 2 = W at hw w1
  have hwd : ∀ s, f_X7_widthOf N (d : Int) s = some ((W : Int), s) := fun s => by unfold f_X7_widthOf; rw [hw]
  have gen : ∀ (j y fu : Nat) (s : mS), y + j = W → j < fu → fr [41] σ s → ∃ s', L_X6_countLeft_r28_13 N fu (d : Int) c ((ct (fun y => cnb E n sg (fst9 d + y)) y : Nat) : Int) (fst9 d : Int) ((fst9 d + y : Nat) : Int) s = some (((ct (fun y => cnb E n sg (fst9 d + y)) W : Nat) : Int), s') ∧ fr [41] σ s' := by
    intro j
    induction j with
    | zero =>
      intro y fu s h1 h2 hf
      obtain ⟨fu, rfl⟩ : ∃ f', fu = f' + 1 := ⟨fu - 1, by omega⟩
      have : y = W := by omega
      subst this
      rw [L_X6_countLeft_r28_13_s, hwd, Option.bind_some]
      try dsimp only
      rw [mw_id (by omega) (by omega), if_pos (by omega)]
      exact ⟨s, rfl, hf⟩
    | succ j ih =>
      intro y fu s h1 h2 hf
      obtain ⟨fu, rfl⟩ : ∃ f', fu = f' + 1 := ⟨fu - 1, by omega⟩
      have hle := ct_le (fun y => cnb E n sg (fst9 d + y)) y
      obtain ⟨s2, r1, r2⟩ := X6_first_eq (N := N) (x := fst9 d + y) (c := c) (E := E) (n := n) (sg := sg) (σ := s) hN (CPw_ag H (ag_fr hf (by decide))) (by omega) (by rw [hf 5 _ _ (by decide)]; exact hn) hG (fun g hg => by
        rw [← hE g hg]; unfold elC
        rw [hf 7 _ _ (by decide), hf 7 _ _ (by decide), hf 7 _ _ (by decide)]) (fun g hg => by rw [hf 28 _ _ (by decide)]; exact hsg g hg)
      rw [L_X6_countLeft_r28_13_s, hwd, Option.bind_some]
      try dsimp only
      rw [mw_id (z := (fst9 d : Int) + (W : Int)) (by omega) (by omega), if_neg (by omega), r1, Option.bind_some]
      try dsimp only
      rw [mw_s (k := fst9 d + y) (by omega), mw_s (by omega), mw_0 (by omega)]
      obtain ⟨s3, q1, q2⟩ := ih (y + 1) fu s2 (by omega) (by omega) (fr_trans hf r2)
      rw [ct_s] at q1
      cases hb : cnb E n sg (fst9 d + y) with
      | true =>
        rw [hb, if_pos rfl] at q1
        rw [if_neg (by decide)]
        exact ⟨s3, q1, q2⟩
      | false =>
        rw [hb, if_neg (by decide)] at q1
        rw [if_pos bi_f]
        exact ⟨s3, q1, q2⟩
  obtain ⟨s', e, f1⟩ := gen W 0 N σ (by omega) (by omega) fr_rfl
  refine ⟨s', ?_, f1⟩
  unfold f_X6_countLeft_r28
  rw [X7_firstOf_eq (by omega), Option.bind_some]
  try dsimp only
  rw [show d * (d + 1) * (d + 2) / 6 = fst9 d from rfl, show L_X6_countLeft_r28_13 N N (d : Int) c 0 ((fst9 d : Nat) : Int) ((fst9 d : Nat) : Int) σ = L_X6_countLeft_r28_13 N N (d : Int) c ((ct (fun y => cnb E n sg (fst9 d + y)) 0 : Nat) : Int) (fst9 d : Int) ((fst9 d + 0 : Nat) : Int) σ from rfl, e]
  unfold cnt
  rw [hW]
  rfl
