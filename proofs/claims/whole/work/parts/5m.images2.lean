/-! the reference's IMAGES -/
def IRl (σ : mS) (l : List tn) : Prop := σ 71 0 40 = (l.length : Int) ∧ ∀ k, k < l.length → C3 σ 97 0 (3 * k) (l.getD k tid)
def IMR (σ : mS) (a : Bool) (pl : tn) (l : List tn) : Prop := σ 71 0 41 = bi a ∧ (a = true → C3 σ 96 0 0 pl) ∧ IRl σ l ∧ l.length ≤ 48
theorem X12_known_eq {N : Nat} {x4 : Int} {a : tn} {l : List tn} {σ : mS} (hN : 100 ≤ N) (hl : l.length ≤ 48) (h : C3 σ 98 0 0 a) (hI : IRl σ l) : L_X12_images_55 N N x4 0 0 σ = some (bi (decide (fnd (fun k => l.getD k tid) a l.length 0 ≠ -1)), σ) := by
  obtain ⟨o, e, hP⟩ := lp2_0 (L := fun f k b s => L_X12_images_55 N f x4 b k s) (I := fun k b s => s = σ ∧ ((b = 0 ∧ ∀ k', k' < k → l.getD k' tid ≠ a) ∨ (b = 1 ∧ ∃ k', k' < l.length ∧ l.getD k' tid = a))) (P := fun o => o = (bi (decide (fnd (fun k => l.getD k tid) a l.length 0 ≠ -1)), σ)) l.length (fun f k b s hk hJ => by
      obtain ⟨h1, h2⟩ := hJ
      subst h1
      left
      have hr := hI.2 k hk
      have x1 : mw (3 * (k : Int)) = ((3 * k : Nat) : Int) := by rw [mw_id (by omega) (by omega)]; omega
      have x2 : mw (((3 * k : Nat) : Int) + 1) = ((3 * k + 1 : Nat) : Int) := by rw [mw_id (by omega) (by omega)]; omega
      have x3 : mw (((3 * k : Nat) : Int) + 2) = ((3 * k + 2 : Nat) : Int) := by rw [mw_id (by omega) (by omega)]; omega
      have no : l.getD k tid ≠ a → ∀ (hb : ∀ k', k' < k → l.getD k' tid ≠ a), ∀ k', k' < k + 1 → l.getD k' tid ≠ a := fun hne hb k' hk' => by
        by_cases ek : k' = k
        · subst ek; exact hne
        · exact hb k' (by omega)
      have h0 : s 98 0 0 = a.1 := h.1
      have h1' : s 98 0 1 = a.2.1 := h.2.1
      have h2' : s 98 0 2 = a.2.2 := h.2.2
      try dsimp only
      rw [L_X12_images_55_s, hI.1, if_neg (by omega), x1, x2, x3, mw_s (by omega), tN, tN, tN, hr.1, hr.2.1, hr.2.2, h0, h1', h2']
      rcases h2 with ⟨rfl, hb⟩ | ⟨rfl, hb⟩
      · rw [if_pos rfl, if_pos (by omega)]
        by_cases q0 : (l.getD k tid).1 = a.1
        · rw [if_pos q0, if_pos (by omega)]
          by_cases q1 : (l.getD k tid).2.1 = a.2.1
          · rw [if_pos q1, if_pos (by omega)]
            by_cases q2 : (l.getD k tid).2.2 = a.2.2
            · rw [if_pos q2]
              exact ⟨_, _, rfl, rfl, Or.inr ⟨rfl, k, hk, Prod.ext q0 (Prod.ext q1 q2)⟩⟩
            · rw [if_neg q2]
              exact ⟨_, _, rfl, rfl, Or.inl ⟨rfl, no (fun z => q2 (by rw [z])) hb⟩⟩
          · rw [if_neg q1]
            exact ⟨_, _, rfl, rfl, Or.inl ⟨rfl, no (fun z => q1 (by rw [z])) hb⟩⟩
        · rw [if_neg q0]
          exact ⟨_, _, rfl, rfl, Or.inl ⟨rfl, no (fun z => q0 (by rw [z])) hb⟩⟩
      · rw [if_neg (by decide)]
        exact ⟨_, _, rfl, rfl, Or.inr ⟨rfl, hb⟩⟩) (fun f b s hJ => by
      obtain ⟨h1, h2⟩ := hJ
      subst h1
      refine ⟨(b, s), ?_, ?_⟩
      · try dsimp only
        rw [L_X12_images_55_s, hI.1, if_pos (by omega)]
      · rcases h2 with ⟨rfl, hb⟩ | ⟨rfl, k', k1, k2⟩
        · rw [decide_eq_false (fun z => z (fnd_none _ 0 (fun i _ hi => hb i (by omega))))]; rfl
        · have hne : fnd (fun k => l.getD k tid) a l.length 0 ≠ -1 := fun z => by
            rcases fnd_cases (fun k => l.getD k tid) a l.length 0 with ⟨-, y⟩ | ⟨i, -, -, y, -⟩
            · exact y k' (Nat.zero_le _) (by omega) k2
            · omega
          rw [decide_eq_true hne]; rfl) (f := N) (a := 0) (s := σ) (by omega) ⟨rfl, Or.inl ⟨rfl, fun k' h => absurd h (Nat.not_lt_zero _)⟩⟩
  try dsimp only at e
  rw [e, hP]
theorem X12_put3_eq {N m : Nat} {x4 : Int} {a : tn} {σ : mS} (hN : 100 ≤ N) (hm : m < 48) (h : C3 σ 98 0 0 a) (h40 : σ 71 0 40 = (m : Int)) : ∃ σ', L_X12_images_151 N N x4 0 σ = some σ' ∧ fr [97] σ σ' ∧ C3 σ' 97 0 (3 * m) a ∧ ∀ k, k < 3 * m → σ' 97 0 k = σ 97 0 k := by
  obtain ⟨s, e, h1, h2, h3⟩ := lp_0 (L := fun f i s => L_X12_images_151 N f x4 i s) (I := fun i s => fr [97] σ s ∧ (∀ i', i' < i → s 97 0 (3 * m + i') = tcd a i') ∧ ∀ k, k < 3 * m → s 97 0 k = σ 97 0 k) (P := fun s => fr [97] σ s ∧ (∀ i', i' < 3 → s 97 0 (3 * m + i') = tcd a i') ∧ ∀ k, k < 3 * m → s 97 0 k = σ 97 0 k) 3 (fun f i s hi hI => by
      obtain ⟨h1, h2, h3⟩ := hI
      left
      have x1 : mw (mw (3 * (m : Int)) + (i : Int)) = ((3 * m + i : Nat) : Int) := RG_ix (n := 48) (by omega) hm hi
      have hc : s 98 0 i = tcd a i := by
        rw [h1 98 _ _ (by decide)]
        have := C3_at h hi
        rw [Nat.zero_add] at this
        exact this
      try dsimp only
      rw [L_X12_images_151_s, if_neg (by omega), h1 71 _ _ (by decide), h40, x1, if_pos (by omega), tN, tN, hc, mw_s (by omega)]
      refine ⟨_, rfl, fr_mup h1 (by decide), fun i' hi' => ?_, fun k hk => by rw [mup_k (by omega)]; exact h3 k hk⟩
      by_cases ei : i' = i
      · subst ei; rw [mup_s]
      · rw [mup_k (by omega)]; exact h2 i' (by omega)) (fun f s hI => by
      refine ⟨s, ?_, hI⟩
      try dsimp only
      rw [L_X12_images_151_s, if_pos (by omega)]) (f := N) (s := σ) (by omega) ⟨fr_rfl, fun i' h => absurd h (Nat.not_lt_zero _), fun _ _ => rfl⟩
  exact ⟨s, e, h1, C3_of h2, h3⟩
theorem C3_fq {σ σ' : mS} {R K : List Nat} {r i b : Nat} {p : tn} (h : C3 σ r i b p) (hf : fq R K σ σ') (hr : r ∉ R) (h7 : r ≠ 71) : C3 σ' r i b p := by
  unfold C3 at h ⊢
  rw [hf.1 r _ _ hr h7, hf.1 r _ _ hr h7, hf.1 r _ _ hr h7]
  exact h
theorem X12_images_eq {N n : Nat} {E : Nat → tn} {pl : tn} {σ : mS} (hN : 100 ≤ N) (H : RG σ E n) : ∃ σ', f_X12_images N pl.1 pl.2.1 pl.2.2 σ = some (((iml E pl n).length : Int), σ') ∧ fq [96, 97, 98] [40, 41] σ σ' ∧ IMR σ' true pl (iml E pl n) := by
  have h48 := RG_48 H
  generalize hs0 : mup (mup (mup (mup (mup σ 96 0 0 pl.1) 96 0 1 pl.2.1) 96 0 2 pl.2.2) 71 0 41 1) 71 0 40 0 = s0
  have f0 : fq [96, 97, 98] [40, 41] σ s0 := by
    subst hs0
    exact fq_mupk (fq_mupk (fq_mup (fq_mup (fq_mup fq_rfl (by decide) (by decide)) (by decide) (by decide)) (by decide) (by decide)) (by decide)) (by decide)
  have p0 : C3 s0 96 0 0 pl := by subst hs0; refine ⟨?_, ?_, ?_⟩ <;> simp [mup_def]
  have a0 : s0 71 0 41 = 1 := by subst hs0; simp [mup_def]
  have c0 : s0 71 0 40 = 0 := by subst hs0; simp [mup_def]
  obtain ⟨s, e, h1, h2, h3, h4⟩ := lp_0 (L := fun f g s => L_X12_images_34 N f g s) (I := fun g s => fq [96, 97, 98] [40, 41] σ s ∧ C3 s 96 0 0 pl ∧ s 71 0 41 = 1 ∧ IRl s (iml E pl g)) (P := fun s => fq [96, 97, 98] [40, 41] σ s ∧ C3 s 96 0 0 pl ∧ s 71 0 41 = 1 ∧ IRl s (iml E pl n)) n (fun f g s hg hI => by
      obtain ⟨h1, h2, h3, h4⟩ := hI
      left
      have Hs := RG_fq H h1 (by decide) (by decide)
      have hle := iml_le E pl g
      obtain ⟨s1, r1, r2, r3⟩ := X12_lead_eq (N := N) hN Hs hg h2
      have q2 := fq_of r2 (by decide)
      have I1 : IRl s1 (iml E pl g) := ⟨by rw [r2 71 _ _ (by decide)]; exact h4.1, fun k hk => C3_fq (h4.2 k hk) q2 (by decide) (by decide)⟩
      have f1 : fq [96, 97, 98] [40, 41] σ s1 := fq_trans h1 (fq_sub q2 (fun r hr => by simp at hr ⊢; omega) (fun k hk => absurd hk (by simp)))
      have p1 := C3_fq h2 q2 (by decide) (by decide)
      have a1 : s1 71 0 41 = 1 := by rw [r2 71 _ _ (by decide)]; exact h3
      try dsimp only
      rw [L_X12_images_34_s, Hs.1, if_neg (by omega), r1, Option.bind_some, X12_known_eq hN (by omega) r3 I1, Option.bind_some, mw_s (by omega)]
      try dsimp only
      rw [iml_s]
      by_cases q : fnd (fun k => (iml E pl g).getD k tid) (ldt (E g) pl) (iml E pl g).length 0 = -1
      · obtain ⟨s2, t1, t2, t3, t4⟩ := X12_put3_eq (N := N) (x4 := (g : Int)) (m := (iml E pl g).length) hN (by omega) r3 I1.1
        rw [decide_eq_false (fun z => z q), if_pos bi_f, t1, Option.bind_some, t2 71 _ _ (by decide), I1.1, mw_s (by omega), if_pos q]
        have q3 := fq_of t2 (by decide)
        refine ⟨_, rfl, fq_mupk (fq_trans f1 (fq_sub q3 (fun r hr => by simp at hr ⊢; omega) (fun k hk => absurd hk (by simp)))) (by decide), C3_fq (C3_fq p1 q3 (by decide) (by decide)) (fq_mupk (R := []) (K := [40]) fq_rfl (by decide)) (by decide) (by decide), ?_, ?_⟩
        · rw [mup_k (by decide), t2 71 _ _ (by decide)]; exact a1
        · refine ⟨by rw [mup_s]; simp, fun k hk => ?_⟩
          unfold C3
          rw [mup_r (by decide), mup_r (by decide), mup_r (by decide)]
          by_cases ek : k < (iml E pl g).length
          · rw [List.getD_eq_getElem?_getD, List.getElem?_append_left ek, ← List.getD_eq_getElem?_getD, t4 _ (by omega), t4 _ (by omega), t4 _ (by omega)]
            exact I1.2 k ek
          · have : k = (iml E pl g).length := by simp at hk; omega
            subst this
            rw [List.getD_eq_getElem?_getD, List.getElem?_append_right (Nat.le_refl _), Nat.sub_self]
            exact t3
      · rw [decide_eq_true q, if_neg (by decide), if_neg q]
        exact ⟨s1, rfl, f1, p1, a1, I1⟩) (fun f s hI => by
      have Hs := RG_fq H hI.1 (by decide) (by decide)
      refine ⟨s, ?_, hI⟩
      try dsimp only
      rw [L_X12_images_34_s, Hs.1, if_pos (by omega)]) (f := N) (s := s0) (by omega) ⟨f0, p0, a0, c0, fun k hk => absurd hk (Nat.not_lt_zero _)⟩
  refine ⟨s, ?_, h1, h3, fun _ => h2, h4, by have := iml_le E pl n; omega⟩
  unfold f_X12_images
  try dsimp only at e
  rw [hs0, e, Option.bind_some, h4.1]
theorem X12_leads_eq {N n : Nat} {E : Nat → tn} {a : Bool} {pl b : tn} {l : List tn} {σ : mS} (hN : 100 ≤ N) (H : RG σ E n) (hI : IMR σ a pl l) : ∃ σ', f_X12_leads N b.1 b.2.1 b.2.2 σ = some (if a = true then fnd (fun g => ldt (E g) pl) b n 0 else -1, σ') ∧ fr [98] σ σ' := by
  have h48 := RG_48 H
  have hn0 := H.2.2.1
  cases a with
  | false =>
    obtain ⟨K, hK⟩ : ∃ K, N = K + 1 := ⟨N - 1, by omega⟩
    refine ⟨σ, ?_, fr_rfl⟩
    unfold f_X12_leads
    rw [show L_X12_leads_3 N N b.1 b.2.1 b.2.2 0 σ = L_X12_leads_3 N (K + 1) b.1 b.2.1 b.2.2 0 σ from by rw [← hK], L_X12_leads_3_s, H.1, if_neg (by omega), hI.1, if_pos bi_f]
    rfl
  | true =>
    obtain ⟨o, e, hP⟩ := lp_0 (S := mS) (L := fun f g s => L_X12_leads_3 N f b.1 b.2.1 b.2.2 g s) (I := fun g s => fr [98] σ s ∧ ∀ g', g' < g → ldt (E g') pl ≠ b) (P := fun o => ∃ s', fr [98] σ s' ∧ ((o = .inr s' ∧ fnd (fun g => ldt (E g) pl) b n 0 = -1) ∨ (o = .inl (fnd (fun g => ldt (E g) pl) b n 0, s')))) n (fun f g s hg hJ => by
        obtain ⟨h1, h2⟩ := hJ
        have Hs := RG_fr H h1 (by decide) (by decide)
        obtain ⟨s1, r1, r2, r3⟩ := X12_lead_eq (N := N) (pl := pl) hN Hs hg (C3_fq (hI.2.1 rfl) (fq_of h1 (by decide)) (by decide) (by decide))
        have no : ldt (E g) pl ≠ b → ∀ g', g' < g + 1 → ldt (E g') pl ≠ b := fun hne g' hg' => by
          by_cases eg : g' = g
          · subst eg; exact hne
          · exact h2 g' (by omega)
        have c0 : s1 98 0 0 = (ldt (E g) pl).1 := r3.1
        have c1 : s1 98 0 1 = (ldt (E g) pl).2.1 := r3.2.1
        have c2 : s1 98 0 2 = (ldt (E g) pl).2.2 := r3.2.2
        try dsimp only
        rw [L_X12_leads_3_s, Hs.1, if_neg (by omega), h1 71 _ _ (by decide), hI.1, if_neg (by decide), r1, Option.bind_some, c0, c1, c2, mw_s (by omega)]
        by_cases q0 : (ldt (E g) pl).1 = b.1
        · rw [if_pos q0]
          by_cases q1 : (ldt (E g) pl).2.1 = b.2.1
          · rw [if_pos q1]
            by_cases q2 : (ldt (E g) pl).2.2 = b.2.2
            · rw [if_pos q2]
              refine Or.inr ⟨_, rfl, s1, fr_trans h1 r2, Or.inr ?_⟩
              rw [fnd_some n 0 g (Nat.zero_le _) (by omega) (Prod.ext q0 (Prod.ext q1 q2)) (fun i _ hi => h2 i hi)]
            · rw [if_neg q2]
              exact Or.inl ⟨s1, rfl, fr_trans h1 r2, no (fun z => q2 (by rw [z]))⟩
          · rw [if_neg q1]
            exact Or.inl ⟨s1, rfl, fr_trans h1 r2, no (fun z => q1 (by rw [z]))⟩
        · rw [if_neg q0]
          exact Or.inl ⟨s1, rfl, fr_trans h1 r2, no (fun z => q0 (by rw [z]))⟩) (fun f s hJ => by
        obtain ⟨h1, h2⟩ := hJ
        have Hs := RG_fr H h1 (by decide) (by decide)
        try dsimp only
        rw [L_X12_leads_3_s, Hs.1, if_pos (by omega)]
        exact ⟨_, rfl, s, h1, Or.inl ⟨rfl, fnd_none n 0 (fun i _ hi => h2 i (by omega))⟩⟩) (f := N) (s := σ) (by omega) ⟨fr_rfl, fun g' h => absurd h (Nat.not_lt_zero _)⟩
    obtain ⟨s', f1, hP⟩ := hP
    refine ⟨s', ?_, f1⟩
    unfold f_X12_leads
    try dsimp only at e
    rw [e, Option.bind_some, if_pos rfl]
    rcases hP with ⟨rfl, q⟩ | rfl
    · rw [q]
    · rfl
