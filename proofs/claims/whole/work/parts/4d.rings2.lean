/-! the class's rings and mirrors -/
def rrP (t : tn) (first : Nat) : Nat → Nat → Nat → Int → Nat → Nat × Nat × Int
  | 0, s, k, p, _ => (s, k, p)
  | f + 1, s, k, p, a => if lto t a = first then (s ||| 2 ^ a, k + 1, if 0 ≤ tcd t a then p else -p) else rrP t first f (s ||| 2 ^ a) (k + 1) (if 0 ≤ tcd t a then p else -p) (lto t a)
theorem rrP_s (t : tn) (first f s k : Nat) (p : Int) (a : Nat) : rrP t first (f + 1) s k p a = if lto t a = first then (s ||| 2 ^ a, k + 1, if 0 ≤ tcd t a then p else -p) else rrP t first f (s ||| 2 ^ a) (k + 1) (if 0 ≤ tcd t a then p else -p) (lto t a) := rfl
def rdP (t : tn) : Nat → Nat → Nat → List (Nat × Int) → List (Nat × Int)
  | 0, _, _, l => l
  | j + 1, i, seen, l => if (seen >>> i) % 2 = 0 then rdP t j (i + 1) (seen ||| (rrP t i 3 0 0 1 i).1) (l ++ [((rrP t i 3 0 0 1 i).2.1, (rrP t i 3 0 0 1 i).2.2)]) else rdP t j (i + 1) seen l
theorem rdP_s (t : tn) (j i seen : Nat) (l : List (Nat × Int)) : rdP t (j + 1) i seen l = if (seen >>> i) % 2 = 0 then rdP t j (i + 1) (seen ||| (rrP t i 3 0 0 1 i).1) (l ++ [((rrP t i 3 0 0 1 i).2.1, (rrP t i 3 0 0 1 i).2.2)]) else rdP t j (i + 1) seen l := rfl
/-- length and sign of each ring -/
def rgl (t : tn) : List (Nat × Int) := rdP t 3 0 0 []
theorem RG_c3 {σ : mS} {t : tn} {y i : Nat} (e : elC σ y = t) (hi : i < 3) : σ 7 y i = tcd t i := by
  rw [← e]
  have : i = 0 ∨ i = 1 ∨ i = 2 := by omega
  rcases this with rfl | rfl | rfl <;> rfl
theorem X11_ixc {N : Nat} {c : Int} {σ : mS} (h : cok c) : f_X11_indexOfCode N c σ = some (((c.natAbs - 1 : Nat) : Int), σ) := by
  obtain ⟨i1, i2, i3, i4, i5, i6⟩ := X11_ix N σ
  rcases h with rfl | rfl | rfl | rfl | rfl | rfl
  · exact i1
  · exact i2
  · exact i3
  · exact i4
  · exact i5
  · exact i6
theorem or_sh : ∀ s ∈ [0, 1, 2, 3, 4, 5, 6, 7], ∀ a ∈ [0, 1, 2], o_or (s : Nat) (o_shl 1 (a : Nat)) = ((s ||| 2 ^ a : Nat) : Int) := by decide +kernel
theorem m8 {i : Nat} (h : i < 8) : i ∈ [0, 1, 2, 3, 4, 5, 6, 7] := by
  have : i = 0 ∨ i = 1 ∨ i = 2 ∨ i = 3 ∨ i = 4 ∨ i = 5 ∨ i = 6 ∨ i = 7 := by omega
  rcases this with rfl | rfl | rfl | rfl | rfl | rfl | rfl | rfl <;> decide
theorem or8 : ∀ s ∈ [0, 1, 2, 3, 4, 5, 6, 7], ∀ a ∈ [0, 1, 2, 3, 4, 5, 6, 7], o_or (s : Nat) (a : Nat) = ((s ||| a : Nat) : Int) ∧ s ||| a < 8 := by decide +kernel
theorem shb : ∀ s ∈ [0, 1, 2, 3, 4, 5, 6, 7], ∀ a ∈ [0, 1, 2], (o_and (o_shr (s : Nat) (a : Nat)) 1 = 0) = ((s >>> a) % 2 = 0) := by
  intro s hs a ha
  have : ∀ s ∈ [0, 1, 2, 3, 4, 5, 6, 7], ∀ a ∈ [0, 1, 2], decide (o_and (o_shr (s : Nat) (a : Nat)) 1 = 0) = decide ((s >>> a) % 2 = 0) := by decide +kernel
  have h := this s hs a ha
  exact propext (by simpa using h)
theorem or2 {s a : Nat} (hs : s < 8) (ha : a < 3) : s ||| 2 ^ a < 8 := by
  have : a = 0 ∨ a = 1 ∨ a = 2 := by omega
  have h2 : 2 ^ a < 8 := by rcases this with rfl | rfl | rfl <;> decide
  exact (or8 s (m8 hs) _ (m8 h2)).2
theorem X8_ring_lp {N : Nat} {σ : mS} {t : tn} {y first : Nat} (ht : tok t) (e : elC σ y = t) (hf1 : first < 3) : ∀ (j s k f : Nat) (p : Int) (a : Nat), a < 3 → s < 8 → k + j = 3 → 0 < j → (p = 1 ∨ p = -1) → j ≤ f →
    L_X8_readRing_r7_11 N f y (first : Int) (s : Int) (k : Int) p (a : Int) σ = some (((rrP t first j s k p a).1 : Int), ((rrP t first j s k p a).2.1 : Int), (rrP t first j s k p a).2.2, σ) ∧ (rrP t first j s k p a).1 < 8 ∧ (rrP t first j s k p a).2.1 ≤ 3 ∧ ((rrP t first j s k p a).2.2 = 1 ∨ (rrP t first j s k p a).2.2 = -1) := by
  intro j
  induction j with
  | zero => intro s k f p a _ _ _ h; exact absurd h (Nat.lt_irrefl _)
  | succ j ih =>
    intro s k f p a ha hs hk _ hp hf
    obtain ⟨f, rfl⟩ : ∃ f', f = f' + 1 := ⟨f - 1, by omega⟩
    have e1 : o_or (s : Int) (o_shl 1 (a : Int)) = ((s ||| 2 ^ a : Nat) : Int) := or_sh s (m8 hs) a (m012 ha)
    have hor := or2 hs ha
    have e2 : mw (-p) = -p := by rcases hp with rfl | rfl <;> decide
    have hc := tcd_ok ht a
    have step : L_X8_readRing_r7_11 N (f + 1) y (first : Int) (s : Int) (k : Int) p (a : Int) σ = if lto t a = first then some (((s ||| 2 ^ a : Nat) : Int), ((k + 1 : Nat) : Int), if 0 ≤ tcd t a then p else -p, σ) else if k + 1 < 3 then L_X8_readRing_r7_11 N f y (first : Int) ((s ||| 2 ^ a : Nat) : Int) ((k + 1 : Nat) : Int) (if 0 ≤ tcd t a then p else -p) (lto t a : Int) σ else some (((s ||| 2 ^ a : Nat) : Int), ((k + 1 : Nat) : Int), if 0 ≤ tcd t a then p else -p, σ) := by
      rw [L_X8_readRing_r7_11_s, if_pos (by omega), tN, RG_c3 e ha, X11_ixc hc, Option.bind_some, Option.bind_some]
      try dsimp only
      rw [e1, e2, mw_s (by omega), show ((((tcd t a).natAbs - 1 : Nat)) : Int) = ((lto t a : Nat) : Int) from rfl]
      by_cases q : 0 ≤ tcd t a
      · rw [if_pos q, if_pos (by omega)]
        by_cases q2 : lto t a = first
        · rw [if_pos (by omega), if_pos q2, if_pos q]
        · rw [if_neg (by omega), if_neg q2]
          by_cases q3 : k + 1 < 3
          · rw [if_pos (by omega), if_pos q3, if_pos q]
          · rw [if_neg (by omega), if_neg q3, if_pos q]
      · rw [if_neg q, if_pos (by omega)]
        by_cases q2 : lto t a = first
        · rw [if_pos (by omega), if_pos q2, if_neg q]
        · rw [if_neg (by omega), if_neg q2]
          by_cases q3 : k + 1 < 3
          · rw [if_pos (by omega), if_pos q3, if_neg q]
          · rw [if_neg (by omega), if_neg q3, if_neg q]
    have hp2 : (if 0 ≤ tcd t a then p else -p) = 1 ∨ (if 0 ≤ tcd t a then p else -p) = -1 := by split <;> omega
    rw [step, rrP_s]
    by_cases q2 : lto t a = first
    · rw [if_pos q2, if_pos q2]
      exact ⟨rfl, hor, by show k + 1 ≤ 3; omega, hp2⟩
    · rw [if_neg q2, if_neg q2]
      by_cases q3 : k + 1 < 3
      · rw [if_pos q3]
        exact ih _ _ f _ _ (lto_lt ht a) hor (by omega) (by omega) hp2 (by omega)
      · have : j = 0 := by omega
        subst this
        rw [if_neg q3]
        exact ⟨rfl, hor, by show k + 1 ≤ 3; omega, hp2⟩
def RgS (σ : mS) (l : List (Nat × Int)) : Prop := σ 23 0 2 = (l.length : Int) ∧ ∀ r, r < l.length → σ 24 0 r = ((l.getD r (0, 0)).1 : Int) ∧ σ 25 0 r = (l.getD r (0, 0)).2
theorem X8_read_eq {N : Nat} {σ : mS} {t : tn} {y : Nat} (hN : 100 ≤ N) (ht : tok t) (e : elC σ y = t) : ∃ σ', f_X8_read_r7 N y σ = some σ' ∧ RgS σ' (rgl t) ∧ fr [23, 24, 25] σ σ' := by
  obtain ⟨s1, e1, h1, h2⟩ := lp2_0 (L := fun f k a s => L_X8_read_r7_9 N f y a k s) (I := fun i a s => ∃ (seen : Nat) (l : List (Nat × Int)), a = (seen : Int) ∧ seen < 8 ∧ l.length ≤ i ∧ RgS s l ∧ rdP t (3 - i) i seen l = rgl t ∧ fr [23, 24, 25] σ s)
    (P := fun s => RgS s (rgl t) ∧ fr [23, 24, 25] σ s) 3 (fun f i sn s hi hI => by
      obtain ⟨seen, l, q1, q2, q3, q4, q5, q6⟩ := hI
      try dsimp only at q1 q4 q6 ⊢
      subst q1
      left
      have e2 : elC s y = t := by
        rw [← e]; unfold elC
        rw [q6 7 y 0 (by decide), q6 7 y 1 (by decide), q6 7 y 2 (by decide)]
      obtain ⟨r1, r2, r3, r4⟩ := X8_ring_lp (N := N) (first := i) ht e2 hi 3 0 0 N 1 i hi (by omega) (by omega) (by omega) (Or.inl rfl) (by omega)
      have hsh := shb seen (m8 q2) i (m012 hi)
      rw [show 3 - i = (3 - (i + 1)) + 1 from by omega, rdP_s] at q5
      rw [L_X8_read_r7_9_s, if_neg (by omega), mw_s (by omega)]
      by_cases hb : (seen >>> i) % 2 = 0
      · rw [if_pos (by rw [hsh]; exact hb)]
        rw [if_pos hb] at q5
        unfold f_X8_readRing_r7
        rw [show L_X8_readRing_r7_11 N N y (i : Int) 0 0 1 (i : Int) s = L_X8_readRing_r7_11 N N y (i : Int) ((0 : Nat) : Int) ((0 : Nat) : Int) 1 (i : Int) s from rfl, r1, Option.bind_some]
        try dsimp only
        rw [q4.1, if_pos (by omega), Option.bind_some, tN, mw_s (by omega)]
        try dsimp only
        obtain ⟨o1, o2⟩ := or8 seen (m8 q2) _ (m8 r2)
        rw [o1]
        refine ⟨_, _, rfl, _, _, rfl, o2, ?_, ?_, q5, fr_mup (fr_mup (fr_mup q6 (by decide)) (by decide)) (by decide)⟩
        · simp; omega
        · refine ⟨by rw [mup_s]; simp, fun r hr => ?_⟩
          by_cases er : r < l.length
          · rw [List.getD_eq_getElem?_getD, List.getElem?_append_left er, ← List.getD_eq_getElem?_getD]
            refine ⟨?_, ?_⟩
            · rw [mup_r (by decide), mup_r (by decide), mup_k (by omega)]; exact (q4.2 r er).1
            · rw [mup_r (by decide), mup_k (by omega), mup_r (by decide)]; exact (q4.2 r er).2
          · have : r = l.length := by simp at hr; omega
            subst this
            rw [List.getD_eq_getElem?_getD, List.getElem?_append_right (Nat.le_refl _), Nat.sub_self]
            refine ⟨?_, ?_⟩
            · rw [mup_r (by decide), mup_r (by decide), mup_s]; rfl
            · rw [mup_r (by decide), mup_s]; rfl
      · rw [if_neg (by rw [hsh]; exact hb)]
        rw [if_neg hb] at q5
        exact ⟨_, _, rfl, seen, l, rfl, q2, by omega, q4, q5, q6⟩) (fun f sn s hI => by
      obtain ⟨seen, l, q1, q2, q3, q4, q5, q6⟩ := hI
      have q7 : l = rgl t := q5
      subst q7
      refine ⟨s, ?_, q4, q6⟩
      try dsimp only
      rw [L_X8_read_r7_9_s, if_pos (by omega)]) (f := N) (a := 0) (s := mup σ 23 0 2 0) (by omega) ⟨0, [], rfl, by omega, Nat.le_refl _, ⟨mup_s _ _ _ _ _, fun r hr => absurd hr (Nat.not_lt_zero _)⟩, rfl, fr_mup fr_rfl (by decide)⟩
  refine ⟨s1, ?_, h1, h2⟩
  unfold f_X8_read_r7
  try dsimp only at e1
  rw [e1]
  rfl
theorem rgl_ok : ∀ t ∈ allT, (rgl t).length ≤ 3 ∧ (ct (fun r => decide (0 < ((rgl t).getD r (0, 0)).2)) (rgl t).length = still t) ∧ rgl t = ([0, 1, 2].filter fun i => rLe t i == i).map fun i => (rLo t i, rSg t i) := by decide +kernel
theorem rgl_rg : ∀ t ∈ allT, ∀ x ∈ rgl t, 0 < x.1 ∧ x.1 ≤ 3 ∧ (x.2 = 1 ∨ x.2 = -1) := by decide +kernel
theorem X8_lines_eq {N : Nat} {σ : mS} {t : tn} (hN : 100 ≤ N) (ht : tok t) (h : RgS σ (rgl t)) : f_X8_linesLeft N σ = some ((still t : Int), σ) := by
  obtain ⟨h3, hc, -⟩ := rgl_ok t (tok_mem.mp ht)
  obtain ⟨⟨v, s1⟩, e1, h1, h2⟩ := lp2_0 (L := fun f k a s => L_X8_linesLeft_4 N f a k s) (I := fun i a s => a = (ct (fun r => decide (0 < ((rgl t).getD r (0, 0)).2)) i : Int) ∧ s = σ)
    (P := fun s => s.1 = (ct (fun r => decide (0 < ((rgl t).getD r (0, 0)).2)) (rgl t).length : Int) ∧ s.2 = σ) (rgl t).length (fun f i v s hi hI => by
      obtain ⟨q1, q2⟩ := hI
      try dsimp only at q1 q2 ⊢
      subst q1
      subst q2
      left
      have hle := ct_le (fun r => decide (0 < ((rgl t).getD r (0, 0)).2)) i
      rw [L_X8_linesLeft_4_s, h.1, if_neg (by omega), if_pos (by omega), tN, (h.2 i hi).2, mw_s (by omega), mw_s (by omega), mw_0 (by omega)]
      by_cases q : ((rgl t).getD i (0, 0)).2 ≤ 0
      · rw [if_pos q]
        refine ⟨_, s, rfl, ?_, rfl⟩
        rw [ct_s, if_neg (show ¬ decide (0 < ((rgl t).getD i (0, 0)).2) = true from fun z => by have := of_decide_eq_true z; omega)]
        rfl
      · rw [if_neg q]
        refine ⟨_, s, rfl, ?_, rfl⟩
        rw [ct_s, if_pos (show decide (0 < ((rgl t).getD i (0, 0)).2) = true from decide_eq_true (by omega))]) (fun f v s hI => by
      obtain ⟨q1, q2⟩ := hI
      try dsimp only at q1 q2 ⊢
      subst q2
      refine ⟨(v, s), ?_, q1, rfl⟩
      rw [L_X8_linesLeft_4_s, h.1, if_pos (by omega)]) (f := N) (a := 0) (s := σ) (by omega) ⟨rfl, rfl⟩
  try dsimp only at e1 h1 h2
  subst h1
  subst h2
  unfold f_X8_linesLeft
  rw [e1, hc]
  rfl
theorem X1_fillMirrors_eq {N : Nat} {E : Nat → tn} {n : Nat} {σ : mS} (hN : 100 ≤ N) (hn : σ 5 0 0 = (n : Int)) (hG : GP E n) (hE : ∀ g, g < n → elC σ g = E g) :
    ∃ σ', f_X1_fillMirrors N σ = some σ' ∧ fr [5, 22, 23, 24, 25] σ σ' ∧ (∀ k, k ≠ 3 → σ' 5 0 k = σ 5 0 k) ∧ σ' 5 0 3 = (ct (fun g => mir (E g)) n : Int) ∧ ∀ g, g < n → σ' 22 0 g = if mir (E g) = true then 1 else 0 := by
  have h48 : n ≤ 48 := few48 hG.2.2.1 hG.2.2.2.1
  obtain ⟨s1, e1, h1, h2, h3, h4⟩ := lp_0 (L := fun f k (s : mS) => L_X1_fillMirrors_7 N f k s) (I := fun i s => fr [5, 22, 23, 24, 25] σ s ∧ (∀ k, k ≠ 3 → s 5 0 k = σ 5 0 k) ∧ s 5 0 3 = (ct (fun g => mir (E g)) i : Int) ∧ ∀ g, g < i → s 22 0 g = if mir (E g) = true then 1 else 0)
    (P := fun s => fr [5, 22, 23, 24, 25] σ s ∧ (∀ k, k ≠ 3 → s 5 0 k = σ 5 0 k) ∧ s 5 0 3 = (ct (fun g => mir (E g)) n : Int) ∧ ∀ g, g < n → s 22 0 g = if mir (E g) = true then 1 else 0) n (fun f i s hi hI => by
      obtain ⟨h1, h2, h3, h4⟩ := hI
      try dsimp only
      left
      have hle := ct_le (fun g => mir (E g)) i
      have ht := hG.2.2.1 i hi
      have he : elC s i = E i := by
        rw [← hE i hi]; unfold elC
        rw [h1 7 i 0 (by decide), h1 7 i 1 (by decide), h1 7 i 2 (by decide)]
      obtain ⟨s2, r1, r2, r3⟩ := X8_read_eq hN ht he
      rw [L_X1_fillMirrors_7_s, h2 0 (by decide), hn, if_neg (by omega), if_pos (by omega), tN, r1, Option.bind_some, X8_lines_eq hN ht r2, Option.bind_some]
      try dsimp only
      rw [r3 5 0 3 (by decide), h3, mw_s (by omega), mw_s (by omega), mw_0 (by omega)]
      have gen : ∀ (b : Bool) (z w : Int), mir (E i) = b → z = (if b = true then 1 else 0) → w = ((ct (fun g => mir (E g)) i + (if b = true then 1 else 0) : Nat) : Int) → (fr [5, 22, 23, 24, 25] σ (mup (mup s2 22 0 i z) 5 0 3 w) ∧ (∀ k, k ≠ 3 → (mup (mup s2 22 0 i z) 5 0 3 w) 5 0 k = σ 5 0 k) ∧ (mup (mup s2 22 0 i z) 5 0 3 w) 5 0 3 = (ct (fun g => mir (E g)) (i + 1) : Int) ∧ ∀ g, g < i + 1 → (mup (mup s2 22 0 i z) 5 0 3 w) 22 0 g = if mir (E g) = true then 1 else 0) := by
        intro b z w hb hz hw
        refine ⟨fr_mup (fr_mup (fr_trans h1 (fr_sub r3 (fun r hr => by simp at hr ⊢; omega))) (by decide)) (by decide), fun k hk => ?_, ?_, fun g hg => ?_⟩
        · rw [mup_k hk, mup_r (by decide), r3 5 0 k (by decide), h2 k hk]
        · rw [mup_s, hw, ct_s, hb]
        · rw [mup_r (by decide)]
          by_cases eg : g = i
          · subst eg; rw [mup_s, hz, hb]
          · rw [mup_k eg, r3 22 0 g (by decide), h4 g (by omega)]
      by_cases q : still (E i) = 2
      · have hb : mir (E i) = true := by unfold mir; rw [q]; rfl
        rw [if_pos (by omega), if_pos (by omega), mup_s, if_neg (by decide)]
        exact ⟨_, rfl, gen true 1 _ hb rfl rfl⟩
      · have hb : mir (E i) = false := by unfold mir; simpa using q
        rw [if_neg (by omega), if_pos (by omega), mup_s, if_pos rfl]
        exact ⟨_, rfl, gen false 0 _ hb rfl rfl⟩) (fun f s hI => by
      refine ⟨s, ?_, hI⟩
      try dsimp only
      rw [L_X1_fillMirrors_7_s, hI.2.1 0 (by decide), hn, if_pos (by omega)]) (f := N) (s := mup σ 5 0 3 0) (by omega) ⟨fr_mup fr_rfl (by decide), fun k hk => mup_k hk, mup_s _ _ _ _ _, fun g hg => absurd hg (Nat.not_lt_zero _)⟩
  refine ⟨s1, ?_, h1, h2, h3, h4⟩
  unfold f_X1_fillMirrors
  try dsimp only at e1
  rw [e1]
  rfl
