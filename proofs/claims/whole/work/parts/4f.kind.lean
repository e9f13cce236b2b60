/-! KIND and the number of mirrors -/
def anb (p : Nat → Bool) : Nat → Bool
  | 0 => false
  | n + 1 => anb p n || p n
theorem anb_s (p : Nat → Bool) (n : Nat) : anb p (n + 1) = (anb p n || p n) := rfl
theorem anb_of {p : Nat → Bool} {g : Nat} (h : p g = true) : ∀ n, g < n → anb p n = true
  | 0, q => absurd q (Nat.not_lt_zero _)
  | n + 1, q => by
    rw [anb_s]
    by_cases e : g = n
    · subst e; rw [h, Bool.or_true]
    · rw [anb_of h n (by omega), Bool.true_or]
theorem anb_no {p : Nat → Bool} : ∀ n, (∀ g, g < n → p g = false) → anb p n = false
  | 0, _ => rfl
  | n + 1, h => by rw [anb_s, anb_no n (fun g hg => h g (by omega)), h n (by omega)]; rfl
theorem anb_ex {p : Nat → Bool} : ∀ n, anb p n = true → ∃ g, g < n ∧ p g = true
  | 0, h => by cases h
  | n + 1, h => by
    rw [anb_s, Bool.or_eq_true] at h
    rcases h with h | h
    · obtain ⟨g, h1, h2⟩ := anb_ex n h
      exact ⟨g, by omega, h2⟩
    · exact ⟨n, by omega, h⟩
def bi (b : Bool) : Int := if b = true then 1 else 0
theorem bi_t : bi true = 1 := rfl
theorem bi_f : bi false = 0 := rfl
def ngb (t : tn) : Bool := decide (t.1 < 0) || decide (t.2.1 < 0) || decide (t.2.2 < 0)
def knd (E : Nat → tn) (n : Nat) : Int := if anb (fun g => gor E n g == n) n = true then 0 else if anb (fun g => ngb (E g)) n = true then 2 else 1
theorem X1_kind_eq {N : Nat} {M : Nat → tn} {m : Nat} {σ : mS} (hN : 100 ≤ N) (H : CGr σ M m) : f_X1_kind N σ = some (knd (bE (bfs M m)) (bfs M m).length, σ) := by
  have h48 := CG_48 H.1
  have hn := H.1.1.1
  have hO := H.2.2.2.1
  have hE := H.1.1.2.1
  clear H
  generalize hl : bfs M m = l at hn hO hE h48 ⊢
  obtain ⟨o, e1, h1⟩ := lp2_0 (L := fun f k a s => L_X1_kind_4 N f a k s) (I := fun i a s => a = bi (anb (fun g => ngb (bE l g)) i) ∧ s = σ ∧ anb (fun g => gor (bE l) l.length g == l.length) i = false)
    (P := fun o => (anb (fun g => gor (bE l) l.length g == l.length) l.length = true ∧ o = .inl (0, σ)) ∨ (anb (fun g => gor (bE l) l.length g == l.length) l.length = false ∧ o = .inr (bi (anb (fun g => ngb (bE l g)) l.length), σ))) l.length (fun f i v s hi hI => by
      obtain ⟨q1, q2, q3⟩ := hI
      try dsimp only at q1 q2 ⊢
      subst q1
      subst q2
      have ho := (hO i hi).2
      have hel := hE i hi
      have c0 : s 7 i 0 = (bE l i).1 := congrArg Prod.fst hel
      have c1 : s 7 i 1 = (bE l i).2.1 := congrArg (fun x : tn => x.2.1) hel
      have c2 : s 7 i 2 = (bE l i).2.2 := congrArg (fun x : tn => x.2.2) hel
      rw [L_X1_kind_4_s, hn, if_neg (by omega), if_pos (by omega), tN, ho, mw_s (by omega), c0, c1, c2]
      by_cases e : gor (bE l) l.length i = l.length
      · right
        rw [if_pos (by omega)]
        exact ⟨_, rfl, Or.inl ⟨anb_of (g := i) (by simpa using e) _ hi, rfl⟩⟩
      · left
        rw [if_neg (by omega)]
        have q4 : anb (fun g => gor (bE l) l.length g == l.length) (i + 1) = false := by rw [anb_s, q3]; simpa using e
        cases hb : anb (fun g => ngb (bE l g)) i with
        | true =>
          rw [if_neg (by decide)]
          exact ⟨_, s, rfl, by rw [anb_s, hb]; rfl, rfl, q4⟩
        | false =>
          rw [if_pos bi_f, if_pos (by omega)]
          by_cases x0 : (bE l i).1 < 0
          · rw [if_pos x0]
            exact ⟨_, s, rfl, by rw [anb_s, hb]; unfold ngb; simp [x0, bi], rfl, q4⟩
          · rw [if_neg x0, if_pos (by omega)]
            by_cases x1 : (bE l i).2.1 < 0
            · rw [if_pos x1]
              exact ⟨_, s, rfl, by rw [anb_s, hb]; unfold ngb; simp [x1, bi], rfl, q4⟩
            · rw [if_neg x1, if_pos (by omega)]
              by_cases x2 : 0 ≤ (bE l i).2.2
              · rw [if_pos x2]
                exact ⟨_, s, rfl, by rw [anb_s, hb]; unfold ngb; simp [x0, x1, show ¬ (bE l i).2.2 < 0 by omega, bi], rfl, q4⟩
              · rw [if_neg x2]
                exact ⟨_, s, rfl, by rw [anb_s, hb]; unfold ngb; simp [show (bE l i).2.2 < 0 by omega, bi], rfl, q4⟩) (fun f v s hI => by
      obtain ⟨q1, q2, q3⟩ := hI
      try dsimp only at q1 q2 ⊢
      subst q1
      subst q2
      rw [L_X1_kind_4_s, hn, if_pos (by omega)]
      exact ⟨_, rfl, Or.inr ⟨q3, rfl⟩⟩) (f := N) (a := 0) (s := σ) (by omega) ⟨rfl, rfl, rfl⟩
  try dsimp only at e1
  unfold f_X1_kind knd
  rw [e1, Option.bind_some]
  rcases h1 with ⟨q1, rfl⟩ | ⟨q1, rfl⟩
  · try dsimp only
    rw [if_pos q1]
  · try dsimp only
    rw [q1]
    cases anb (fun g => ngb (bE l g)) l.length with
    | true => rfl
    | false => rfl
theorem X12_sg_lp {N : Nat} {σ : mS} {E : Nat → tn} {n g : Nat} (hN : 100 ≤ N) (H : RG σ E n) (hg : g < n) (x3 : Int) (b : Bool) : L_X12_about_96 N N x3 (bi b) (g : Int) 0 σ = some (bi (b || ngb (E g)), σ) := by
  have h48 := RG_48 H
  have st : ∀ (i f : Nat) (b : Bool), i < 3 → L_X12_about_96 N (f + 1) x3 (bi b) (g : Int) (i : Int) σ = L_X12_about_96 N f x3 (bi (b || decide (tcd (E g) i < 0))) (g : Int) ((i + 1 : Nat) : Int) σ := by
    intro i f b hi
    rw [L_X12_about_96_s, if_neg (by omega), RG_ix h48 hg hi, tN, RG_cd H hg hi, mw_s (by omega)]
    cases b with
    | true => rw [if_neg (by decide)]; rfl
    | false =>
      rw [if_pos bi_f, if_pos (by omega)]
      by_cases q : 0 ≤ tcd (E g) i
      · rw [if_pos q, Bool.false_or, decide_eq_false (by omega)]; rfl
      · rw [if_neg q, Bool.false_or, decide_eq_true (by omega)]; rfl
  obtain ⟨K, hK⟩ : ∃ K, N = K + 1 + 1 + 1 + 1 := ⟨N - 4, by omega⟩
  rw [show L_X12_about_96 N N x3 (bi b) (g : Int) 0 σ = L_X12_about_96 N (K + 1 + 1 + 1 + 1) x3 (bi b) (g : Int) ((0 : Nat) : Int) σ from by rw [← hK]; rfl, st 0 _ _ (by omega), st 1 _ _ (by omega), st 2 _ _ (by omega), L_X12_about_96_s, if_pos (by omega)]
  unfold ngb
  simp [tcd, Bool.or_assoc]
theorem X12_kind_eq {N : Nat} {E : Nat → tn} {n : Nat} {σ : mS} (hN : 100 ≤ N) (H : RG σ E n) : f_X12_about N 1 σ = some (knd E n, σ) := by
  have h48 := RG_48 H
  have hn := H.1
  obtain ⟨o, e1, h1⟩ := lp_0 (S := Int × Int × mS) (L := fun f k s => L_X12_about_61 N f s.1 s.2.1 k s.2.2) (I := fun i s => s = (bi (anb (fun g => gor E n g == n) i), bi (anb (fun g => ngb (E g)) i), σ))
    (P := fun o => o = (bi (anb (fun g => gor E n g == n) n), bi (anb (fun g => ngb (E g)) n), σ)) n (fun f i s hi hI => by
      subst hI
      left
      try dsimp only
      rw [L_X12_about_61_s, hn, if_neg (by omega), X12_order_eq hN H hi, Option.bind_some]
      try dsimp only
      rw [hn, mw_s (by omega), X12_sg_lp hN H hi, X12_sg_lp hN H hi, Option.bind_some, Option.bind_some, anb_s, anb_s]
      refine ⟨_, ?_, rfl⟩
      try dsimp only
      cases anb (fun g => gor E n g == n) i with
      | true => rw [if_neg (by decide)]; rfl
      | false =>
        rw [if_pos bi_f, Bool.false_or]
        by_cases e : gor E n i = n
        · rw [if_pos (by omega), show (gor E n i == n) = true from by simpa using e]; rfl
        · rw [if_neg (by omega), show (gor E n i == n) = false from by simpa using e]; rfl) (fun f s hI => by
      subst hI
      refine ⟨_, ?_, rfl⟩
      try dsimp only
      rw [L_X12_about_61_s, hn, if_pos (by omega)]) (f := N) (s := (0, 0, σ)) (by omega) rfl
  try dsimp only at e1
  subst h1
  unfold f_X12_about knd
  rw [if_neg (by decide), if_pos rfl, e1, Option.bind_some]
  try dsimp only
  cases anb (fun g => gor E n g == n) n with
  | true => rw [if_neg (by decide)]; rfl
  | false =>
    rw [if_pos bi_f]
    cases anb (fun g => ngb (E g)) n with
    | true => rw [if_neg (by decide)]; rfl
    | false => rfl
theorem X12_mirs_eq {N : Nat} {E : Nat → tn} {n : Nat} {σ : mS} (hN : 100 ≤ N) (H : RG σ E n) : f_X12_about N 4 σ = some ((ct (fun g => mir (E g)) n : Int), σ) := by
  have h48 := RG_48 H
  have hn := H.1
  obtain ⟨o, e1, h1⟩ := lp_0 (L := fun f k (s : Int × mS) => L_X12_about_172 N f s.1 k s.2) (I := fun i s => s = ((ct (fun g => mir (E g)) i : Int), σ))
    (P := fun o => o = ((ct (fun g => mir (E g)) n : Int), σ)) n (fun f i s hi hI => by
      subst hI
      left
      try dsimp only
      have hle := ct_le (fun g => mir (E g)) i
      rw [L_X12_about_172_s, hn, if_neg (by omega), X12_isMirror_eq hN H hi, Option.bind_some]
      try dsimp only
      rw [mw_s (by omega), mw_s (by omega), mw_0 (by omega)]
      refine ⟨_, ?_, rfl⟩
      try dsimp only
      rw [ct_s]
      cases mir (E i) with
      | true => rfl
      | false => rfl) (fun f s hI => by
      subst hI
      refine ⟨_, ?_, rfl⟩
      try dsimp only
      rw [L_X12_about_172_s, hn, if_pos (by omega)]) (f := N) (s := (0, σ)) (by omega) rfl
  try dsimp only at e1
  subst h1
  unfold f_X12_about
  rw [if_neg (by decide), if_neg (by decide), if_neg (by decide), if_neg (by decide), if_pos rfl, e1]
  rfl
