/-! about 5: the reference -/
def cnf (s : mS) (n : Nat) : Nat := ct (fun g => decide (s 80 0 g ≠ 0)) n
/-- flags: only reached ones -/
def fls (s : mS) (E : Nat → tn) (n : Nat) : Prop := ∀ c, c < n → s 80 0 c ≠ 0 → rch E n c
theorem X12_by51 {N n g : Nat} {b : Bool} {E : Nat → tn} {s : mS} (hN : 1000 ≤ N) (H : RG s E n) (hg : g < n) (hs : fls s E n) :
    ∃ b' s', L_X12_byMirrors_51 N N (bi b) (g : Int) 0 s = some (bi b', s') ∧ fr [80] s s' ∧ (∀ c, c < n → s 80 0 c ≠ 0 → s' 80 0 c ≠ 0) ∧ fls s' E n ∧ (b' = false → b = false ∧ (∀ c, c < n → s' 80 0 c = s 80 0 c) ∧ (s 80 0 g ≠ 0 → ∀ h, h < n → mir (E h) = true → s 80 0 (gm E n g h) ≠ 0)) ∧ (b' = true → b = true ∨ cnf s n < cnf s' n) := by
  have h48 := RG_48 H
  have hG := H.2.2
  obtain ⟨K, hK⟩ : ∃ K, N = K + 1 := ⟨N - 1, by omega⟩
  by_cases q0 : s 80 0 g = 0
  · refine ⟨b, s, ?_, fr_rfl, fun _ _ h => h, hs, fun e => ⟨e, fun _ _ => rfl, fun z => absurd q0 z⟩, fun e => Or.inl e⟩
    rw [show L_X12_byMirrors_51 N N (bi b) (g : Int) 0 s = L_X12_byMirrors_51 N (K + 1) (bi b) (g : Int) 0 s from by rw [← hK], L_X12_byMirrors_51_s, H.1, if_neg (by omega), if_pos (by omega), tN, if_pos q0]
  · obtain ⟨o, e, b', s', r1, r2, r3, r4, r5, r6⟩ := lp2_0 (A := Int) (S := mS) (L := fun f k a s => L_X12_byMirrors_51 N f a (g : Int) k s) (I := fun k a s1 => ∃ b' : Bool, a = bi b' ∧ fr [80] s s1 ∧ (∀ c, c < n → s 80 0 c ≠ 0 → s1 80 0 c ≠ 0) ∧ fls s1 E n ∧ (b' = false → b = false ∧ (∀ c, c < n → s1 80 0 c = s 80 0 c) ∧ (∀ h, h < k → mir (E h) = true → s 80 0 (gm E n g h) ≠ 0)) ∧ (b' = true → b = true ∨ cnf s n < cnf s1 n)) (P := fun o => ∃ b' s', o = (bi b', s') ∧ fr [80] s s' ∧ (∀ c, c < n → s 80 0 c ≠ 0 → s' 80 0 c ≠ 0) ∧ fls s' E n ∧ (b' = false → b = false ∧ (∀ c, c < n → s' 80 0 c = s 80 0 c) ∧ (∀ h, h < n → mir (E h) = true → s 80 0 (gm E n g h) ≠ 0)) ∧ (b' = true → b = true ∨ cnf s n < cnf s' n)) n (fun f k a s1 hk hI => by
        obtain ⟨b', rfl, i1, i2, i3, i4, i5⟩ := hI
        left
        have H1 := RG_fr H i1 (by decide) (by decide)
        obtain ⟨g1, -⟩ := gm_ok hG hg hk
        try dsimp only
        rw [L_X12_byMirrors_51_s, H1.1, if_neg (by omega), if_pos (by omega), tN, if_neg (i2 g hg q0), X12_isMirror_eq (by omega) H1 hk, Option.bind_some, mw_s (by omega)]
        try dsimp only
        by_cases qm : mir (E k) = true
        · rw [if_pos qm, if_neg (by decide), X12_product_eq (by omega) H1 hg hk, Option.bind_some]
          try dsimp only
          rw [if_pos (by omega), tN]
          by_cases qf : s1 80 0 (gm E n g k) = 0
          · rw [if_pos qf, X12_product_eq (by omega) H1 hg hk, Option.bind_some]
            try dsimp only
            rw [if_pos (by omega), tN]
            refine ⟨_, _, rfl, true, rfl, fr_mup i1 (by decide), fun c hc hz => ?_, fun c hc hz => ?_, fun z => absurd z (by decide), fun _ => ?_⟩
            · by_cases ec : c = gm E n g k
              · subst ec; rw [mup_s]; decide
              · rw [mup_k ec]; exact i2 c hc hz
            · by_cases ec : c = gm E n g k
              · subst ec; exact rch_s hg (hs g hg q0) hk qm
              · rw [mup_k ec] at hz; exact i3 c hc hz
            · right
              have c1 : cnf s n ≤ cnf s1 n := ct_sub n (fun c hc hz => decide_eq_true (i2 c hc (of_decide_eq_true hz)))
              have c2 : cnf (mup s1 80 0 (gm E n g k) 1) n = cnf s1 n + 1 := ct_ins (x := gm E n g k) (by simp [qf]) (by rw [mup_s]; rfl) (fun c hc => by rw [mup_k hc]) n g1
              omega
          · rw [if_neg qf]
            refine ⟨_, _, rfl, b', rfl, i1, i2, i3, fun z => ?_, i5⟩
            obtain ⟨j1, j2, j3⟩ := i4 z
            refine ⟨j1, j2, fun h hh hm => ?_⟩
            by_cases eh : h = k
            · subst eh; rw [← j2 _ g1]; exact qf
            · exact j3 h (by omega) hm
        · rw [if_neg qm, if_pos rfl]
          refine ⟨_, _, rfl, b', rfl, i1, i2, i3, fun z => ?_, i5⟩
          obtain ⟨j1, j2, j3⟩ := i4 z
          refine ⟨j1, j2, fun h hh hm => ?_⟩
          by_cases eh : h = k
          · subst eh; exact absurd hm qm
          · exact j3 h (by omega) hm) (fun f a s1 hI => by
        obtain ⟨b', rfl, i1, i2, i3, i4, i5⟩ := hI
        have H1 := RG_fr H i1 (by decide) (by decide)
        try dsimp only
        rw [L_X12_byMirrors_51_s, H1.1, if_pos (by omega)]
        exact ⟨_, rfl, b', s1, rfl, i1, i2, i3, i4, i5⟩) (f := N) (a := bi b) (s := s) (by omega) ⟨b, rfl, fr_rfl, fun _ _ h => h, hs, fun z => ⟨z, fun _ _ => rfl, fun h hh => absurd hh (Nat.not_lt_zero _)⟩, fun z => Or.inl z⟩
    subst r1
    exact ⟨b', s', e, r2, r3, r4, fun z => ⟨(r5 z).1, (r5 z).2.1, fun _ => (r5 z).2.2⟩, r6⟩
theorem X12_by41 {N n : Nat} {E : Nat → tn} {s : mS} (hN : 1000 ≤ N) (H : RG s E n) (hs : fls s E n) :
    ∃ b' s', L_X12_byMirrors_41 N N 0 0 s = some (bi b', s') ∧ fr [80] s s' ∧ (∀ c, c < n → s 80 0 c ≠ 0 → s' 80 0 c ≠ 0) ∧ fls s' E n ∧ (b' = false → (∀ c, c < n → s' 80 0 c = s 80 0 c) ∧ ∀ g, g < n → s 80 0 g ≠ 0 → ∀ h, h < n → mir (E h) = true → s 80 0 (gm E n g h) ≠ 0) ∧ (b' = true → cnf s n < cnf s' n) := by
  have h48 := RG_48 H
  obtain ⟨o, e, b', s', r1, r2, r3, r4, r5, r6⟩ := lp2_0 (A := Int) (S := mS) (L := fun f k a s => L_X12_byMirrors_41 N f a k s) (I := fun k a s1 => ∃ b' : Bool, a = bi b' ∧ fr [80] s s1 ∧ (∀ c, c < n → s 80 0 c ≠ 0 → s1 80 0 c ≠ 0) ∧ fls s1 E n ∧ (b' = false → (∀ c, c < n → s1 80 0 c = s 80 0 c) ∧ ∀ g, g < k → s 80 0 g ≠ 0 → ∀ h, h < n → mir (E h) = true → s 80 0 (gm E n g h) ≠ 0) ∧ (b' = true → cnf s n < cnf s1 n)) (P := fun o => ∃ b' s', o = (bi b', s') ∧ fr [80] s s' ∧ (∀ c, c < n → s 80 0 c ≠ 0 → s' 80 0 c ≠ 0) ∧ fls s' E n ∧ (b' = false → (∀ c, c < n → s' 80 0 c = s 80 0 c) ∧ ∀ g, g < n → s 80 0 g ≠ 0 → ∀ h, h < n → mir (E h) = true → s 80 0 (gm E n g h) ≠ 0) ∧ (b' = true → cnf s n < cnf s' n)) n (fun f k a s1 hk hI => by
      obtain ⟨b1, rfl, i1, i2, i3, i4, i5⟩ := hI
      left
      have H1 := RG_fr H i1 (by decide) (by decide)
      obtain ⟨b2, s2, t1, t2, t3, t4, t5, t6⟩ := X12_by51 (N := N) (b := b1) hN H1 hk i3
      try dsimp only
      rw [L_X12_byMirrors_41_s, H1.1, if_neg (by omega), t1, Option.bind_some, mw_s (by omega)]
      refine ⟨_, _, rfl, b2, rfl, fr_trans i1 t2, fun c hc hz => t3 c hc (i2 c hc hz), t4, fun z => ?_, fun z => ?_⟩
      · obtain ⟨j1, j2, j3⟩ := t5 z
        obtain ⟨l1, l2⟩ := i4 j1
        refine ⟨fun c hc => (j2 c hc).trans (l1 c hc), fun g hg hz h hh hm => ?_⟩
        by_cases eg : g = k
        · subst eg
          have := j3 (by rw [l1 g hk]; exact hz) h hh hm
          rw [l1 _ (gm_ok H.2.2 hk hh).1] at this
          exact this
        · exact l2 g (by omega) hz h hh hm
      · have c1 : cnf s n ≤ cnf s1 n := ct_sub n (fun c hc hz => decide_eq_true (i2 c hc (of_decide_eq_true hz)))
        have c2 : cnf s1 n ≤ cnf s2 n := ct_sub n (fun c hc hz => decide_eq_true (t3 c hc (of_decide_eq_true hz)))
        rcases t6 z with a | a
        · have := i5 a; omega
        · omega) (fun f a s1 hI => by
      obtain ⟨b', rfl, i1, i2, i3, i4, i5⟩ := hI
      have H1 := RG_fr H i1 (by decide) (by decide)
      try dsimp only
      rw [L_X12_byMirrors_41_s, H1.1, if_pos (by omega)]
      exact ⟨_, rfl, b', s1, rfl, i1, i2, i3, i4, i5⟩) (f := N) (a := 0) (s := s) (by omega) ⟨false, rfl, fr_rfl, fun _ _ h => h, hs, fun z => ⟨fun _ _ => rfl, fun h hh => absurd hh (Nat.not_lt_zero _)⟩, fun z => absurd z (by decide)⟩
  subst r1
  exact ⟨b', s', e, r2, r3, r4, r5, r6⟩
theorem X12_by33 {N n : Nat} {E : Nat → tn} (hN : 1000 ≤ N) : ∀ (j f : Nat) (s : mS), n - cnf s n ≤ j → j + 1 < f → RG s E n → fls s E n → s 80 0 0 ≠ 0 → ∃ s', L_X12_byMirrors_33 N f 1 s = some s' ∧ fr [80] s s' ∧ ∀ g, g < n → (s' 80 0 g ≠ 0 ↔ rch E n g) := by
  intro j
  induction j with
  | zero =>
    intro f s hj hf H hs h0
    obtain ⟨f, rfl⟩ : ∃ f', f = f' + 1 + 1 := ⟨f - 2, by omega⟩
    obtain ⟨b, s1, t1, t2, t3, t4, t5, t6⟩ := X12_by41 (N := N) hN H hs
    have hle : cnf s1 n ≤ n := ct_le _ _
    rw [L_X12_byMirrors_33_s, if_neg (by decide), t1, Option.bind_some]
    try dsimp only
    cases b with
    | true => have := t6 rfl; omega
    | false =>
      obtain ⟨a1, a2⟩ := t5 rfl
      rw [L_X12_byMirrors_33_s, if_pos bi_f]
      refine ⟨s1, rfl, t2, fun g hg => ⟨fun z => t4 g hg z, fun z => ?_⟩⟩
      rw [a1 g hg]
      exact (z (fun a => a < n ∧ s 80 0 a ≠ 0) ⟨H.2.2.1, h0⟩ (fun a ha hS h hh hm => ⟨(gm_ok H.2.2 ha hh).1, a2 a ha hS.2 h hh hm⟩)).2
  | succ j ih =>
    intro f s hj hf H hs h0
    obtain ⟨f, rfl⟩ : ∃ f', f = f' + 1 + 1 := ⟨f - 2, by omega⟩
    obtain ⟨b, s1, t1, t2, t3, t4, t5, t6⟩ := X12_by41 (N := N) hN H hs
    rw [L_X12_byMirrors_33_s, if_neg (by decide), t1, Option.bind_some]
    try dsimp only
    cases b with
    | true =>
      have := t6 rfl
      obtain ⟨s2, u1, u2, u3⟩ := ih (f + 1) s1 (by omega) (by omega) (RG_fr H t2 (by decide) (by decide)) t4 (t3 0 H.2.2.1 h0)
      exact ⟨s2, u1, fr_trans t2 u2, u3⟩
    | false =>
      obtain ⟨a1, a2⟩ := t5 rfl
      rw [L_X12_byMirrors_33_s, if_pos bi_f]
      refine ⟨s1, rfl, t2, fun g hg => ⟨fun z => t4 g hg z, fun z => ?_⟩⟩
      rw [a1 g hg]
      exact (z (fun a => a < n ∧ s 80 0 a ≠ 0) ⟨H.2.2.1, h0⟩ (fun a ha hS h hh hm => ⟨(gm_ok H.2.2 ha hh).1, a2 a ha hS.2 h hh hm⟩)).2
theorem X12_byM_eq {N n : Nat} {E : Nat → tn} {σ : mS} (hN : 1000 ≤ N) (H : RG σ E n) : ∃ σ', f_X12_byMirrors N σ = some (bi (byM E n), σ') ∧ fr [80] σ σ' := by
  have h48 := RG_48 H
  have hn0 := H.2.2.1
  obtain ⟨s1, e1, h1, h2⟩ := lp_0 (L := fun f k s => L_X12_byMirrors_2 N f k s) (I := fun k s => fr [80] σ s ∧ ∀ c, c < k → s 80 0 c = if c = 0 then 1 else 0) (P := fun s => fr [80] σ s ∧ ∀ c, c < n → s 80 0 c = if c = 0 then 1 else 0) n (fun f k s hk hI => by
      obtain ⟨i1, i2⟩ := hI
      left
      try dsimp only
      rw [L_X12_byMirrors_2_s, i1 71 _ _ (by decide), H.1, if_neg (by omega), if_pos (show (0 : Int) ≤ (k : Int) ∧ (k : Int) < 48 by omega), if_pos (show (0 : Int) ≤ (k : Int) ∧ (k : Int) < 48 by omega), tN, mw_s (by omega)]
      by_cases q : k = 0
      · rw [if_pos (by omega)]
        refine ⟨_, rfl, fr_mup i1 (by decide), fun c hc => ?_⟩
        have : c = k := by omega
        subst this
        rw [mup_s, if_pos q]
      · rw [if_neg (by omega)]
        refine ⟨_, rfl, fr_mup i1 (by decide), fun c hc => ?_⟩
        by_cases ec : c = k
        · subst ec; rw [mup_s, if_neg q]
        · rw [mup_k ec]; exact i2 c (by omega)) (fun f s hI => by
      refine ⟨s, ?_, hI⟩
      try dsimp only
      rw [L_X12_byMirrors_2_s, hI.1 71 _ _ (by decide), H.1, if_pos (by omega)]) (f := N) (s := σ) (by omega) ⟨fr_rfl, fun c h => absurd h (Nat.not_lt_zero _)⟩
  have H1 := RG_fr H h1 (by decide) (by decide)
  obtain ⟨s2, e2, h3, h4⟩ := X12_by33 (N := N) (n := n) (E := E) hN n N s1 (by omega) (by omega) H1 (fun c hc hz => by
    rw [h2 c hc] at hz
    by_cases ec : c = 0
    · subst ec; exact rch_0 E n
    · rw [if_neg ec] at hz; exact absurd rfl hz) (by rw [h2 0 hn0, if_pos rfl]; decide)
  have H2 := RG_fr H1 h3 (by decide) (by decide)
  obtain ⟨o, e3, b, r1, r2⟩ := lp2_0 (A := Int) (S := mS) (L := fun f k a s => L_X12_byMirrors_126 N f a k s) (I := fun k a s => s = s2 ∧ ∃ b : Bool, a = bi b ∧ (b = true ↔ ∀ g, g < k → s2 80 0 g ≠ 0)) (P := fun o => ∃ b : Bool, o = (bi b, s2) ∧ (b = true ↔ ∀ g, g < n → s2 80 0 g ≠ 0)) n (fun f k a s hk hI => by
      obtain ⟨rfl, b, rfl, i2⟩ := hI
      left
      try dsimp only
      rw [L_X12_byMirrors_126_s, H2.1, if_neg (by omega), mw_s (by omega)]
      cases b with
      | false =>
        rw [if_pos bi_f]
        refine ⟨_, _, rfl, rfl, false, rfl, fun z => absurd z (by decide), fun z => ?_⟩
        exact absurd (i2.mpr (fun g hg => z g (by omega))) (by decide)
      | true =>
        rw [if_neg (by decide), if_pos (by omega), tN]
        by_cases q : s 80 0 k = 0
        · rw [if_pos q]
          exact ⟨_, _, rfl, rfl, false, rfl, fun z => absurd z (by decide), fun z => absurd q (z k (by omega))⟩
        · rw [if_neg q]
          refine ⟨_, _, rfl, rfl, true, rfl, fun _ g hg => ?_, fun _ => rfl⟩
          by_cases eg : g = k
          · subst eg; exact q
          · exact i2.mp rfl g (by omega)) (fun f a s hI => by
      obtain ⟨rfl, b, rfl, i2⟩ := hI
      try dsimp only
      rw [L_X12_byMirrors_126_s, H2.1, if_pos (by omega)]
      exact ⟨_, rfl, b, rfl, i2⟩) (f := N) (a := 1) (s := s2) (by omega) ⟨rfl, true, rfl, fun _ g hg => absurd hg (Nat.not_lt_zero _), fun _ => rfl⟩
  subst r1
  have hb : b = byM E n := by
    by_cases q : ∀ g, g < n → rch E n g
    · rw [byM_t q]; exact r2.mpr (fun g hg => (h4 g hg).mpr (q g hg))
    · rw [byM_f q]
      cases hb : b with
      | false => rfl
      | true => exact absurd (fun g hg => (h4 g hg).mp (r2.mp hb g hg)) q
  subst hb
  refine ⟨s2, ?_, fr_trans h1 h3⟩
  unfold f_X12_byMirrors
  try dsimp only at e1 e3
  rw [e1, Option.bind_some, e2, Option.bind_some, e3, Option.bind_some]
  try dsimp only
  rw [if_pos (by cases byM E n <;> simp [bi])]
