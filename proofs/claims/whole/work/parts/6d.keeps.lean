/-! the reference keeps what is free -/
theorem hmW_hit {A : Nat → Int} {d a : Nat} (hd : d ≤ 8) (h : hmW A d) (ha : a < 729) (hne : A a ≠ 0) : ∃ y, y < wd d ∧ ly d y = a := by
  have : dg a = d := by
    by_cases q : dg a = d
    · exact q
    · exact absurd ((h a ha).2 q) hne
  exact dg_hit hd this
theorem X12_keeps_eq {N d m q : Nat} {V : Nat → Nat → Int} {pv : Nat → Nat} {a : Nat → Int} {σ0 σ : mS} (hN : 1000 ≤ N) (hd : d ≤ 6) (hRE : RE σ0 d m V) (hL : LsR σ0 σ d m pv a) (hEL : EL V m (wd d) (fun f k => σ0 92 0 (729 * f + ly d k)) (fun f g => σ0 90 0 (30 * f + g)) pv) (hpv : ∀ f, f < m → pv f < wd d ∧ σ0 86 0 f = (ly d (pv f) : Int)) (hnz : ∃ k, k < wd d ∧ σ 87 0 (ly d k) ≠ 0) :
    ∃ σ', f_X12_keeps N (q : Int) σ = some σ' ∧ RE σ' d (m + 1) (fun f => if f = m then (fun k => σ0 87 0 (ly d k)) else V f) ∧ fq [86, 89, 90, 92] [27] σ σ' ∧ σ' 89 0 m = (q : Int) ∧ ∀ f, f ≠ m → σ' 89 0 f = σ 89 0 f := by
  have h28 := (wd_6 d (List.mem_range.mpr (by omega))).1
  obtain ⟨h27, hrow, -⟩ := hRE
  obtain ⟨f1, hw, hy, hRd, hys, hyz⟩ := hL
  have h27s : σ 71 0 27 = (m : Int) := by rw [f1 71 _ _ (by decide)]; exact h27
  -- the first that is not 0
  obtain ⟨⟨o, so⟩, e1, l, hl, hlnz, ho⟩ : ∃ o : Int × mS, L_X12_keeps_2 N N (q : Int) 0 σ = some o ∧ ∃ l : Nat, l < 729 ∧ σ 87 0 l ≠ 0 ∧ o = ((l : Int), σ) := by
    refine lp_0 (S := mS) (L := fun g k s => L_X12_keeps_2 N g (q : Int) k s) (I := fun k s => s = σ ∧ ∀ k', k' < k → σ 87 0 k' = 0) (P := fun o => ∃ l : Nat, l < 729 ∧ σ 87 0 l ≠ 0 ∧ o = ((l : Int), σ)) 729 (fun fu k s hk hI => ?_) (fun fu s hI => ?_) (by omega) ⟨rfl, fun k' h => absurd h (Nat.not_lt_zero _)⟩
    · obtain ⟨q1, q2⟩ := hI
      subst q1
      try dsimp only
      rw [L_X12_keeps_2_s, if_pos (by omega), tN, mw_s (by omega)]
      by_cases z : s 87 0 k = 0
      · rw [if_pos z]
        refine Or.inl ⟨_, rfl, rfl, fun k' hk' => ?_⟩
        by_cases ek : k' = k
        · subst ek; exact z
        · exact q2 k' (by omega)
      · rw [if_neg z]
        exact Or.inr ⟨_, rfl, k, hk, z, rfl⟩
    · obtain ⟨k, hk, hk2⟩ := hnz
      exact absurd (hI.2 _ (ly_lt (show d ≤ 8 by omega) hk)) hk2
  obtain ⟨rfl, rfl⟩ := Prod.mk.inj ho
  obtain ⟨p, hp, hpl⟩ := hmW_hit (show d ≤ 8 by omega) hw hl hlnz
  have hrl := (hw l hl).1
  obtain ⟨lead, hlead⟩ : ∃ x : Nat, so 87 0 l = (x : Int) := ⟨(so 87 0 l).toNat, by omega⟩
  have hl0 : 0 < lead := by
    rcases Nat.eq_zero_or_pos lead with e | e
    · exfalso; apply hlnz; rw [hlead, e]; rfl
    · exact e
  have hivl := iv_lt lead
  have hn1 : em ((iv lead : Int) * so 87 0 (ly d p)) 1 := by
    rw [hpl, hlead]
    unfold em
    rw [← Int.natCast_mul]
    have := iv_ok hl0 (by omega)
    omega
  have hm1 : m < wd d := by
    have hEx : EL (fun f => if f = m then (fun k => σ0 87 0 (ly d k)) else V f) (m + 1) (wd d) (fun f k => if f = m then so 87 0 (ly d k) * (iv lead : Int) else σ0 92 0 (729 * f + ly d k)) (fun f g => if f = m then (if g = m then (iv lead : Int) else -(so 91 0 g) * (iv lead : Int)) else (if g = m then 0 else σ0 90 0 (30 * f + g))) (fun f => if f = m then p else pv f) := by
      exact EL_app (y := fun g => so 91 0 g) (n := (iv lead : Int)) (w' := fun k => so 87 0 (ly d k)) (a := a) (q := p) hEL (fun f hf k hk => by rw [if_neg (by omega)]) (by rw [if_pos rfl]; exact hRd) (fun g hg => hys g hg) hp hn1 (fun f hf k hk => by rw [if_neg (by omega)]) (fun f hf g hg => by rw [if_neg (by omega), if_neg (by omega)]) (fun f hf => by rw [if_neg (by omega), if_pos rfl]; exact em_r _) (fun f hf => by rw [if_neg (by omega)]) (fun k hk => by rw [if_pos rfl]; exact em_r _) (fun g hg => by rw [if_pos rfl, if_neg (by omega)]; exact em_r _) (by rw [if_pos rfl, if_pos rfl]; exact em_r _) (by rw [if_pos rfl])
    exact EL_le hEx
  -- the row
  obtain ⟨s1, e2, a1, a2, a3⟩ := lp_0 (L := fun g k s => L_X12_keeps_30 N g (q : Int) (l : Int) (iv lead : Int) k s) (I := fun k s => fr [92] so s ∧ (∀ c, c < 729 * m → s 92 0 c = so 92 0 c) ∧ ∀ k', k' < k → s 92 0 (729 * m + k') = so 87 0 k' * (iv lead : Int) % 32003) (P := fun s => fr [92] so s ∧ (∀ c, c < 729 * m → s 92 0 c = so 92 0 c) ∧ ∀ k', k' < 729 → s 92 0 (729 * m + k') = so 87 0 k' * (iv lead : Int) % 32003) 729 (fun fu k s hk hI => by
      obtain ⟨a1, a2, a3⟩ := hI
      left
      have b1 := ml_rg (hw k hk).1 (show 0 ≤ (iv lead : Int) ∧ (iv lead : Int) < 32003 by omega)
      have x0 : mw (mw (729 * (m : Int)) + (k : Int)) = ((729 * m + k : Nat) : Int) := by rw [show mw (729 * (m : Int)) = 729 * (m : Int) from mw_id (by omega) (by omega), mw_id (by omega) (by omega)]; omega
      try dsimp only
      rw [L_X12_keeps_30_s, if_neg (by omega), if_pos (by omega), tN, a1 87 _ _ (by decide), mx_small (by omega) (by omega), X12_left_eq (mx_small (by omega) (by omega)), Option.bind_some]
      try dsimp only
      rw [a1 71 _ _ (by decide), h27s, x0, if_pos (by omega), tN, mw_s (by omega)]
      refine ⟨_, rfl, fr_mup a1 (by decide), fun c hc => by rw [mup_k (by omega)]; exact a2 c hc, fun k' hk' => ?_⟩
      by_cases ek : k' = k
      · subst ek; rw [mup_s]
      · rw [mup_k (by omega)]; exact a3 k' (by omega)) (fun fu s hI => by
      refine ⟨s, ?_, hI⟩
      try dsimp only
      rw [L_X12_keeps_30_s, if_pos (by omega)]) (f := N) (s := so) (by omega) ⟨fr_rfl, fun _ _ => rfl, fun k' h => absurd h (Nat.not_lt_zero _)⟩
  -- the shares
  obtain ⟨s2, e3, c1, c2, c3⟩ := lp_0 (L := fun g k s => L_X12_keeps_77 N g (q : Int) (l : Int) (iv lead : Int) k s) (I := fun k s => fr [90] s1 s ∧ (∀ c, c < 30 * m → s 90 0 c = s1 90 0 c) ∧ ∀ k', k' < k → s 90 0 (30 * m + k') = ((if k' = m then 1 else 0) - so 91 0 k') * (iv lead : Int) % 32003) (P := fun s => fr [90] s1 s ∧ (∀ c, c < 30 * m → s 90 0 c = s1 90 0 c) ∧ ∀ k', k' < 30 → s 90 0 (30 * m + k') = ((if k' = m then 1 else 0) - so 91 0 k') * (iv lead : Int) % 32003) 30 (fun fu k s hk hI => by
      obtain ⟨c1, c2, c3⟩ := hI
      left
      have b0 := hy k hk
      have b1 := ml_rg b0 (show 0 ≤ (iv lead : Int) ∧ (iv lead : Int) < 32003 by omega)
      have x0 : mw (mw (30 * (m : Int)) + (k : Int)) = ((30 * m + k : Nat) : Int) := by rw [show mw (30 * (m : Int)) = 30 * (m : Int) from mw_id (by omega) (by omega), mw_id (by omega) (by omega)]; omega
      have h91 : s 91 0 k = so 91 0 k := by rw [c1 91 _ _ (by decide), a1 91 _ _ (by decide)]
      have h27k : s 71 0 27 = (m : Int) := by rw [c1 71 _ _ (by decide), a1 71 _ _ (by decide)]; exact h27s
      have fin : ∀ z : Int, z = ((if k = m then 1 else 0) - so 91 0 k) * (iv lead : Int) % 32003 → fr [90] s1 (mup s 90 0 (30 * m + k) z) ∧ (∀ c, c < 30 * m → (mup s 90 0 (30 * m + k) z) 90 0 c = s1 90 0 c) ∧ ∀ k', k' < k + 1 → (mup s 90 0 (30 * m + k) z) 90 0 (30 * m + k') = ((if k' = m then 1 else 0) - so 91 0 k') * (iv lead : Int) % 32003 := fun z hz => ⟨fr_mup c1 (by decide), fun c hc => by rw [mup_k (by omega)]; exact c2 c hc, fun k' hk' => by
        by_cases ek : k' = k
        · subst ek; rw [mup_s, hz]
        · rw [mup_k (by omega)]; exact c3 k' (by omega)⟩
      try dsimp only
      rw [L_X12_keeps_77_s, if_neg (by omega), h27k, tN, h91, x0]
      by_cases ek : k = m
      · rw [if_pos (by omega), if_pos (by omega), mw_id (z := 1 - so 91 0 k) (by omega) (by omega)]
        have b2 : (1 - so 91 0 k) * (iv lead : Int) = (iv lead : Int) - so 91 0 k * (iv lead : Int) := by rw [Int.sub_mul, Int.one_mul]
        rw [mx_small (by omega) (by omega), X12_left_eq (mx_small (by omega) (by omega)), Option.bind_some]
        try dsimp only
        rw [if_pos (by omega), tN, mw_s (by omega)]
        exact ⟨_, rfl, fin _ (by rw [if_pos ek])⟩
      · rw [if_neg (by omega), if_pos (by omega), mw_id (z := -(so 91 0 k)) (by omega) (by omega)]
        have b2 : -(so 91 0 k) * (iv lead : Int) = -(so 91 0 k * (iv lead : Int)) := Int.neg_mul _ _
        rw [mx_small (by omega) (by omega), X12_left_eq (mx_small (by omega) (by omega)), Option.bind_some]
        try dsimp only
        rw [if_pos (by omega), tN, mw_s (by omega)]
        exact ⟨_, rfl, fin _ (by rw [if_neg ek, Int.zero_sub])⟩) (fun fu s hI => by
      refine ⟨s, ?_, hI⟩
      try dsimp only
      rw [L_X12_keeps_77_s, if_pos (by omega)]) (f := N) (s := s1) (by omega) ⟨fr_rfl, fun _ _ => rfl, fun k' h => absurd h (Nat.not_lt_zero _)⟩
  have h272 : s2 71 0 27 = (m : Int) := by rw [c1 71 _ _ (by decide), a1 71 _ _ (by decide)]; exact h27s
  generalize hs3 : mup (mup (mup s2 86 0 m (l : Int)) 89 0 m (q : Int)) 71 0 27 ((m + 1 : Nat) : Int) = s3
  have g92 : ∀ c, s3 92 0 c = s1 92 0 c := fun c => by subst hs3; rw [mup_r (by decide), mup_r (by decide), mup_r (by decide), c1 92 _ _ (by decide)]
  have g90 : ∀ c, s3 90 0 c = s2 90 0 c := fun c => by subst hs3; rw [mup_r (by decide), mup_r (by decide), mup_r (by decide)]
  have g86 : ∀ f, f ≠ m → s3 86 0 f = σ0 86 0 f := fun f hf => by subst hs3; rw [mup_r (by decide), mup_r (by decide), mup_k hf, c1 86 _ _ (by decide), a1 86 _ _ (by decide), f1 86 _ _ (by decide)]
  have g86m : s3 86 0 m = (l : Int) := by subst hs3; rw [mup_r (by decide), mup_r (by decide), mup_s]
  have o92 : ∀ f x, f < m → x < 729 → s3 92 0 (729 * f + x) = σ0 92 0 (729 * f + x) := fun f x hf hx => by rw [g92, a2 _ (by omega), f1 92 _ _ (by decide)]
  have o90 : ∀ f g, f < m → g < 30 → s3 90 0 (30 * f + g) = σ0 90 0 (30 * f + g) := fun f g hf hg => by rw [g90, c2 _ (by omega), a1 90 _ _ (by decide), f1 90 _ _ (by decide)]
  have n90 : ∀ g, g < 30 → s3 90 0 (30 * m + g) = ((if g = m then 1 else 0) - so 91 0 g) * (iv lead : Int) % 32003 := fun g hg => by rw [g90]; exact c3 g hg
  have n92 : ∀ x, x < 729 → s3 92 0 (729 * m + x) = so 87 0 x * (iv lead : Int) % 32003 := fun x hx => by rw [g92]; exact a3 x hx
  refine ⟨s3, ?_, ⟨by subst hs3; exact mup_s _ _ _ _ _, fun f hf => ?_, fun f => if f = m then p else pv f, fun f hf => ?_, ?_⟩, ?_, by subst hs3; rw [mup_r (by decide), mup_s], fun f hf => by subst hs3; rw [mup_r (by decide), mup_k hf, mup_r (by decide), c1 89 _ _ (by decide), a1 89 _ _ (by decide)]⟩
  · unfold f_X12_keeps
    try dsimp only at e1 e2 e3
    rw [e1, Option.bind_some]
    try dsimp only
    rw [if_pos (by omega), tN, hlead, X12_by_eq (by omega) (by omega), Option.bind_some]
    try dsimp only
    rw [e2, Option.bind_some, e3, Option.bind_some, h272, if_pos (by omega), tN, mw_s (by omega), hs3]
  · by_cases ef : f = m
    · subst ef
      refine ⟨fun x hx => ?_, fun g hg => by rw [n90 g hg]; exact md_lt _, ⟨p, hp, by rw [g86m, hpl]⟩, fun g h1 h2 => ?_⟩
      · try dsimp only
        rw [n92 x hx]
        exact ⟨md_lt _, fun hne => by rw [(hw x hx).2 hne, Int.zero_mul]; rfl⟩
      · rw [n90 g h2, if_neg (by omega), hyz g (by omega) h2]
        simp
    · obtain ⟨b1, b2, b3, b4⟩ := hrow f (by omega)
      refine ⟨fun x hx => ?_, fun g hg => by rw [o90 f g (by omega) hg]; exact b2 g hg, by rw [g86 f ef]; exact b3, fun g h1 h2 => by rw [o90 f g (by omega) h2]; exact b4 g h1 h2⟩
      try dsimp only
      rw [o92 f x (by omega) hx]
      exact b1 x hx
  · try dsimp only
    by_cases ef : f = m
    · subst ef
      rw [if_pos rfl, g86m, hpl]
      exact ⟨hp, rfl⟩
    · rw [if_neg ef, g86 f ef]
      exact hpv f (by omega)
  · refine EL_app (y := fun g => so 91 0 g) (n := (iv lead : Int)) (w' := fun k => so 87 0 (ly d k)) (a := a) (q := p) hEL (fun f hf k hk => by rw [if_neg (by omega)]) (by rw [if_pos rfl]; exact hRd) (fun g hg => hys g hg) hp hn1 (fun f hf k hk => o92 f _ hf (ly_lt (by omega) hk)) (fun f hf g hg => o90 f g hf (by omega)) (fun f hf => ?_) (fun f hf => by rw [if_neg (by omega)]) (fun k hk => ?_) (fun g hg => ?_) ?_ (by rw [if_pos rfl])
    · try dsimp only
      rw [o90 f m hf (by omega), (hrow f hf).2.2.2 m hf (by omega)]
      exact em_r _
    · try dsimp only
      rw [n92 _ (ly_lt (by omega) hk)]
      exact em_md _
    · try dsimp only
      rw [n90 g (by omega), if_neg (by omega), Int.zero_sub]
      exact em_md _
    · try dsimp only
      rw [n90 m (by omega), if_pos rfl, hyz m (Nat.le_refl _) (by omega), Int.sub_zero, Int.one_mul]
      exact em_md _
  · subst hs3
    have q1 : fq [86, 89, 90, 92] [27] so s2 := fq_trans (fq_sub (fq_of a1 (by decide)) (fun r hr => by simp at hr ⊢; omega) (fun k hk => absurd hk (by simp))) (fq_sub (fq_of c1 (by decide)) (fun r hr => by simp at hr ⊢; omega) (fun k hk => absurd hk (by simp)))
    exact fq_mupk (fq_mup (fq_mup q1 (by decide) (by decide)) (by decide) (by decide)) (by decide)
