/-! STAYS -/
theorem tiv_tiv : ∀ t ∈ allT, tiv (tiv t) = t := by decide +kernel
def stb (E : Nat → tn) (n : Nat) (sg Q : Nat → Int) : Bool := alb (fun g => alb (fun x => decide (Q (tX (E g) x) = (tS (E g) x * sg g * Q x) % 32003)) 165) n
theorem stb_ok {E : Nat → tn} {n : Nat} {sg Q : Nat → Int} : stb E n sg Q = true ↔ ∀ g, g < n → ∀ x, x < 165 → Q (tX (E g) x) = (tS (E g) x * sg g * Q x) % 32003 := by
  constructor
  · intro h g hg x hx
    exact of_decide_eq_true (alb_ok (alb_ok h g hg) x hx)
  · intro h
    exact alb_of (fun g hg => alb_of (fun x hx => decide_eq_true (h g hg x hx)))
theorem tvp_tX {t : tn} (ht : tok t) (s : Int) (Q : Nat → Int) {x : Nat} (hx : x < 165) : tvp t s Q 165 (tX t x) = tS t x * s * Q x := by
  unfold tvp
  rw [sm_one (x := x) 165 hx (fun k hk hne => if_neg (fun z => hne (tX_inj ht hk hx z))), if_pos rfl]
theorem tX_sur {t : tn} (ht : tok t) {k : Nat} (hk : k < 165) : ∃ x, x < 165 ∧ tX t x = k := by
  refine ⟨tX (tiv t) k, tX_lt (tiv_ok ht) hk, ?_⟩
  have := tX_v (tiv_ok ht) hk
  rw [tiv_tiv t (tok_mem.mp ht)] at this
  exact this
theorem pmm_nz {s v : Int} (hs : s = 1 ∨ s = -1) (hv : 0 < v) (hv2 : v < 32003) : (s * v) % 32003 ≠ 0 := by
  rcases hs with rfl | rfl <;> omega
/-- it is enough to look where the number is not 0 -/
theorem stb_nz {E : Nat → tn} {n : Nat} {sg Q : Nat → Int} (hG : GP E n) (hQ : nm Q) (hsg : ∀ g, g < n → sg g = 1 ∨ sg g = -1) (h : ∀ x, x < 165 → Q x ≠ 0 → ∀ g, g < n → Q (tX (E g) x) = (tS (E g) x * sg g * Q x) % 32003) : stb E n sg Q = true := by
  refine stb_ok.mpr (fun g hg x hx => ?_)
  by_cases e : Q x = 0
  · have ht := hG.2.2.1 g hg
    have hy := tX_lt ht hx
    rw [e, Int.mul_zero]
    by_cases e2 : Q (tX (E g) x) = 0
    · rw [e2]; rfl
    · obtain ⟨v1, v2⟩ := gv_ok hG hg
      have h2 := h _ hy e2 _ v1
      rw [v2, tX_v ht hx, e] at h2
      have hq := hQ _ hy
      have hpm : tS (tiv (E g)) (tX (E g) x) * sg (gv E n g) = 1 ∨ tS (tiv (E g)) (tX (E g) x) * sg (gv E n g) = -1 := by
        rcases tS_pm (tiv (E g)) (tX (E g) x) with a | a <;> rcases hsg _ v1 with b | b <;> rw [a, b] <;> decide
      exact absurd h2.symm (pmm_nz hpm (by omega) hq.2)
  · exact h x hx e g hg
theorem X6_isLeft_eq {N p c n : Nat} {E : Nat → tn} {sg Q : Nat → Int} {σ : mS} (hN : 1000 ≤ N) (H : CPw σ) (hp : p < 8) (hQ : ∀ x, x < 165 → σ 33 p x = Q x) (hnq : nm Q) (hn : σ 5 0 0 = (n : Int)) (hG : GP E n) (hE : ∀ g, g < n → elC σ g = E g) (hsg : ∀ g, g < n → σ 28 c g = sg g ∧ (sg g = 1 ∨ sg g = -1)) :
    ∃ σ', f_X6_isLeft_r28 N (p : Int) c σ = some (bi (stb E n sg Q), σ') ∧ fr [41] σ σ' := by
  have h48 : n ≤ 48 := few48 hG.2.2.1 hG.2.2.2.1
  have inn : ∀ (x : Nat) (s : mS), x < 165 → fr [41] σ s → ∃ o, L_X6_isLeft_r28_22 N N c p (x : Int) 0 s = some o ∧ ((∃ s', o = .inr s' ∧ fr [41] σ s' ∧ (Q x ≠ 0 → ∀ g, g < n → Q (tX (E g) x) = (tS (E g) x * sg g * Q x) % 32003)) ∨ (∃ s', o = .inl (0, s') ∧ fr [41] σ s' ∧ ∃ g, g < n ∧ Q (tX (E g) x) ≠ (tS (E g) x * sg g * Q x) % 32003)) := by
    intro x s0 hx hf0
    by_cases e0 : Q x = 0
    · obtain ⟨K, hK⟩ : ∃ K, N = K + 1 := ⟨N - 1, by omega⟩
      refine ⟨.inr s0, ?_, Or.inl ⟨s0, rfl, hf0, fun h => absurd e0 h⟩⟩
      rw [show L_X6_isLeft_r28_22 N N c p (x : Int) 0 s0 = L_X6_isLeft_r28_22 N (K + 1) c p (x : Int) 0 s0 from by rw [← hK], L_X6_isLeft_r28_22_s, if_pos (by omega), tN, hf0 33 _ _ (by decide), hQ x hx, if_pos e0]
    · refine lp_0 (S := mS) (L := fun f g s => L_X6_isLeft_r28_22 N f c p (x : Int) g s) (I := fun g s => fr [41] σ s ∧ ∀ g', g' < g → Q (tX (E g') x) = (tS (E g') x * sg g' * Q x) % 32003) _ n (fun f g s hg hI => ?_) (fun f s hI => ?_) (f := N) (s := s0) (by omega) ⟨hf0, fun g' h => absurd h (Nat.not_lt_zero _)⟩
      · obtain ⟨h1, h2⟩ := hI
        have ht := hG.2.2.1 g hg
        have hX := tX_lt ht hx
        have hSp := tS_pm (E g) x
        obtain ⟨g1, g2⟩ := hsg g hg
        have hq2 := hnq x hx
        have H1 := CPw_ag H (ag_fr h1 (by decide))
        have he1 : elC s g = E g := by
          rw [← hE g hg]; unfold elC
          rw [h1 7 _ _ (by decide), h1 7 _ _ (by decide), h1 7 _ _ (by decide)]
        obtain ⟨s2, r1, r2⟩ := X7_turned_eq (N := N) (by omega) H1 hx ht he1
        have f2 := fr_trans h1 r2
        have hss : tS (E g) x * sg g = 1 ∨ tS (E g) x * sg g = -1 := by rcases hSp with a | a <;> rcases g2 with b | b <;> rw [a, b] <;> decide
        have hcd : mw (tS (E g) x * ((tX (E g) x + 1 : Nat) : Int) * sg g) = tS (E g) x * sg g * ((tX (E g) x + 1 : Nat) : Int) := by
          rw [Int.mul_assoc, Int.mul_comm ((tX (E g) x + 1 : Nat) : Int) (sg g), ← Int.mul_assoc]
          rcases hss with a | a <;> rw [a] <;> exact mw_id (by omega) (by omega)
        try dsimp only
        rw [L_X6_isLeft_r28_22_s, if_pos (by omega), tN, h1 33 _ _ (by decide), hQ x hx, if_neg e0, h1 5 _ _ (by decide), hn, if_neg (by omega), if_pos (by omega), tN, r1, Option.bind_some]
        try dsimp only
        rw [X11_ixs hSp hX, Option.bind_some]
        try dsimp only
        rw [if_pos (by omega), tN, f2 28 _ _ (by decide), g1, show s2 33 p x = Q x from (f2 33 _ _ (by decide)).trans (hQ x hx), hcd, X11_signed_eq hss (by omega) hq2, Option.bind_some, mw_s (by omega)]
        try dsimp only
        have hcell : s2 33 p (tX (E g) x) = Q (tX (E g) x) := (f2 33 _ _ (by decide)).trans (hQ _ hX)
        by_cases q : Q (tX (E g) x) = (tS (E g) x * sg g * Q x) % 32003
        · rw [if_pos (hcell.trans q)]
          refine Or.inl ⟨s2, rfl, f2, fun g' hg' => ?_⟩
          by_cases eg : g' = g
          · subst eg; exact q
          · exact h2 g' (by omega)
        · rw [if_neg (fun y => q (hcell.symm.trans y))]
          exact Or.inr ⟨_, rfl, Or.inr ⟨s2, rfl, f2, g, hg, q⟩⟩
      · obtain ⟨h1, h2⟩ := hI
        refine ⟨.inr s, ?_, Or.inl ⟨s, rfl, h1, fun _ => h2⟩⟩
        try dsimp only
        rw [L_X6_isLeft_r28_22_s, if_pos (by omega), tN, h1 33 _ _ (by decide), hQ x hx, if_neg e0, h1 5 _ _ (by decide), hn, if_pos (by omega)]
  obtain ⟨o, e, h⟩ := lp_0 (S := mS) (L := fun f x s => L_X6_isLeft_r28_11 N f c p x s) (I := fun x s => fr [41] σ s ∧ ∀ x', x' < x → Q x' ≠ 0 → ∀ g, g < n → Q (tX (E g) x') = (tS (E g) x' * sg g * Q x') % 32003) (P := fun o => ∃ s', fr [41] σ s' ∧ ((o = .inr s' ∧ stb E n sg Q = true) ∨ (o = .inl (0, s') ∧ stb E n sg Q = false))) 165 (fun f x s hx hI => by
      obtain ⟨h1, h2⟩ := hI
      obtain ⟨o, q1, q2⟩ := inn x s hx h1
      try dsimp only
      rw [L_X6_isLeft_r28_11_s, if_neg (by omega), q1, Option.bind_some, mw_s (by omega)]
      rcases q2 with ⟨s', rfl, a2, a3⟩ | ⟨s', rfl, a2, g, a3, a4⟩
      · refine Or.inl ⟨s', rfl, a2, fun x' hx' hq => ?_⟩
        by_cases ex : x' = x
        · subst ex; exact a3 hq
        · exact h2 x' (by omega) hq
      · refine Or.inr ⟨_, rfl, s', a2, Or.inr ⟨rfl, ?_⟩⟩
        cases hb : stb E n sg Q with
        | false => rfl
        | true => exact absurd (stb_ok.mp hb g a3 x hx) a4) (fun f s hI => by
      try dsimp only
      rw [L_X6_isLeft_r28_11_s, if_pos (by omega)]
      exact ⟨_, rfl, s, hI.1, Or.inl ⟨rfl, stb_nz hG hnq (fun g hg => (hsg g hg).2) hI.2⟩⟩) (f := N) (s := σ) (by omega) ⟨fr_rfl, fun x' h => absurd h (Nat.not_lt_zero _)⟩
  obtain ⟨s', f1, h⟩ := h
  refine ⟨s', ?_, f1⟩
  unfold f_X6_isLeft_r28
  try dsimp only at e
  rw [if_pos (by omega), tN, e, Option.bind_some]
  rcases h with ⟨rfl, b⟩ | ⟨rfl, b⟩
  · rw [b]; rfl
  · rw [b]; rfl
theorem X12_cmp_lp {N p : Nat} {x2 x3 : Int} {P : Nat → Nat → Int} {A : Nat → Int} {σ : mS} (hN : 1000 ≤ N) (hp : p < 8) (hP : RP σ P) (hT : RT σ A) : ∃ o, L_X12_stays0_38 N N (p : Int) x2 x3 0 σ = some o ∧ (((∀ x, x < 165 → A x = P p x) ∧ o = .inr σ) ∨ ((∃ x, x < 165 ∧ A x ≠ P p x) ∧ o = .inl (0, σ))) := by
  refine lp_0 (S := mS) (L := fun f a s => L_X12_stays0_38 N f (p : Int) x2 x3 a s) (I := fun a s => s = σ ∧ ∀ b, b < a → PR A b = PR (P p) b) _ 729 (fun f a s ha hI => ?_) (fun f s hI => ?_) (f := N) (s := σ) (by omega) ⟨rfl, fun b h => absurd h (Nat.not_lt_zero _)⟩
  · obtain ⟨h1, h2⟩ := hI
    subst h1
    have x1 : mw ((5832 : Int) + (a : Int)) = ((5832 + a : Nat) : Int) := by rw [mw_id (by omega) (by omega)]; omega
    try dsimp only
    rw [L_X12_stays0_38_s, if_neg (by omega), x1, mw729 (show p < 10 by omega) ha, if_pos (by omega), tN, tN, hT a ha, hP p hp a ha, mw_s (by omega)]
    by_cases q : PR A a = PR (P p) a
    · rw [if_pos q]
      refine Or.inl ⟨_, rfl, rfl, fun b hb => ?_⟩
      by_cases eb : b = a
      · subst eb; exact q
      · exact h2 b (by omega)
    · rw [if_neg q]
      refine Or.inr ⟨_, rfl, Or.inr ⟨?_, rfl⟩⟩
      by_cases hd : dg a ≤ 8
      · refine ⟨xa a, xa_lt ha hd, fun z => q ?_⟩
        unfold PR
        rw [if_pos hd, if_pos hd, z]
      · refine absurd ?_ q
        unfold PR
        rw [if_neg hd, if_neg hd]
  · obtain ⟨h1, h2⟩ := hI
    subst h1
    try dsimp only
    rw [L_X12_stays0_38_s, if_pos (by omega)]
    refine ⟨_, rfl, Or.inl ⟨fun x hx => ?_, rfl⟩⟩
    have := h2 (ax x) (ax_lt hx)
    rw [PR_ax A hx, PR_ax _ hx] at this
    exact this
theorem X12_stays0_eq {N p c n : Nat} {E : Nat → tn} {sg : Nat → Int} {P : Nat → Nat → Int} {σ : mS} (hN : 1000 ≤ N) (H : RG σ E n) (hp : p < 8) (hc : c < 16) (hP : RP σ P) (hnp : nm (P p)) (hsg : ∀ g, g < n → σ 79 0 (48 * c + g) = sg g ∧ (sg g = 1 ∨ sg g = -1)) :
    ∃ σ', f_X12_stays0 N (p : Int) (c : Int) σ = some (bi (stb E n sg (P p)), σ') ∧ fq [81] [14, 15, 16, 17] σ σ' ∧ RP σ' P := by
  have h48 := RG_48 H
  obtain ⟨o, e, h⟩ := lp_0 (S := mS) (L := fun f g s => L_X12_stays0_2 N f (p : Int) (c : Int) g s) (I := fun g s => fq [81] [14, 15, 16, 17] σ s ∧ RP s P ∧ ∀ g', g' < g → ∀ x, x < 165 → P p (tX (E g') x) = (tS (E g') x * sg g' * P p x) % 32003) (P := fun o => ∃ s', (fq [81] [14, 15, 16, 17] σ s' ∧ RP s' P) ∧ ((o = .inr s' ∧ stb E n sg (P p) = true) ∨ (o = .inl (0, s') ∧ stb E n sg (P p) = false))) n (fun f g s hg hI => by
      obtain ⟨h1, h2, h3⟩ := hI
      have Hs := RG_fq H h1 (by decide) (by decide)
      have ht := H.2.2.2.2.1 g hg
      obtain ⟨g1, g2⟩ := hsg g hg
      obtain ⟨s0, s1, r1, r2, r3, r4, r5, r6⟩ := X12_turn1_eq (N := N) (z := sg g) hN Hs hg hp h2 hnp g2
      obtain ⟨o, q1, q2⟩ := X12_cmp_lp (x2 := (c : Int)) (x3 := (g : Int)) hN hp r5 r6
      try dsimp only
      rw [L_X12_stays0_2_s, Hs.1, if_neg (by omega), r1, Option.bind_some, mw48 hc (by omega), if_pos (by omega), tN, r2 79 _ _ (by decide), h1.1 79 _ _ (by decide) (by decide), g1, r3, Option.bind_some, q1, Option.bind_some, mw_s (by omega)]
      have f1 := fq_trans h1 r4
      rcases q2 with ⟨a, rfl⟩ | ⟨⟨y, y1, y2⟩, rfl⟩
      · refine Or.inl ⟨s1, rfl, f1, r5, fun g' hg' x hx => ?_⟩
        by_cases eg : g' = g
        · subst eg
          have := a _ (tX_lt ht hx)
          rw [tvp_tX ht (sg g') (P p) hx] at this
          exact this.symm
        · exact h3 g' (by omega) x hx
      · refine Or.inr ⟨_, rfl, s1, ⟨f1, r5⟩, Or.inr ⟨rfl, ?_⟩⟩
        cases hb : stb E n sg (P p) with
        | false => rfl
        | true =>
          obtain ⟨x, hx, ex⟩ := tX_sur ht y1
          have h4 := stb_ok.mp hb g hg x hx
          rw [← tvp_tX ht (sg g) (P p) hx, ex] at h4
          exact absurd h4.symm y2) (fun f s hI => by
      have Hs := RG_fq H hI.1 (by decide) (by decide)
      try dsimp only
      rw [L_X12_stays0_2_s, Hs.1, if_pos (by omega)]
      exact ⟨_, rfl, s, ⟨hI.1, hI.2.1⟩, Or.inl ⟨rfl, stb_ok.mpr hI.2.2⟩⟩) (f := N) (s := σ) (by omega) ⟨fq_rfl, hP, fun g' h => absurd h (Nat.not_lt_zero _)⟩
  obtain ⟨s', f1, h⟩ := h
  refine ⟨s', ?_, f1.1, f1.2⟩
  unfold f_X12_stays0
  try dsimp only at e
  rw [e, Option.bind_some]
  rcases h with ⟨rfl, b⟩ | ⟨rfl, b⟩
  · rw [b]; rfl
  · rw [b]; rfl
