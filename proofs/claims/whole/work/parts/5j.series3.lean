/-! the reference's SERIES -/
def S82 (σ : mS) (r : Nat → Int) (d : Nat) : Prop := ∀ k, k ≤ d → σ 82 0 k = r k
theorem X12_ser_0 {N d : Nat} {x2 x3 x5 : Int} {σ : mS} (hN : 1000 ≤ N) (hd : d ≤ 200) : ∃ σ', L_X12_series_38 N N (d : Int) x2 x3 x5 0 σ = some σ' ∧ fr [82] σ σ' ∧ S82 σ' r0S d := by
  obtain ⟨s1, e, h1, h2⟩ := lp_0 (L := fun f k s => L_X12_series_38 N f (d : Int) x2 x3 x5 k s) (I := fun k s => fr [82] σ s ∧ ∀ k', k' < k → s 82 0 k' = r0S k') (P := fun s => fr [82] σ s ∧ S82 s r0S d) (d + 1) (fun f k s hk hI => by
      obtain ⟨h1, h2⟩ := hI
      left
      have nxt : ∀ z, z = r0S k → fr [82] σ (mup s 82 0 k z) ∧ ∀ k', k' < k + 1 → (mup s 82 0 k z) 82 0 k' = r0S k' := fun z hz => ⟨fr_mup h1 (by decide), fun k' hk' => by
        by_cases ek : k' = k
        · subst ek; rw [mup_s, hz]
        · rw [mup_k ek]; exact h2 k' (by omega)⟩
      try dsimp only
      rw [L_X12_series_38_s, if_neg (by omega), mw_s (by omega), tN]
      by_cases e0 : k = 0
      · rw [if_pos (by omega), if_pos (by omega)]
        exact ⟨_, rfl, nxt 1 (by unfold r0S; rw [if_pos e0])⟩
      · rw [if_neg (by omega), if_pos (by omega)]
        exact ⟨_, rfl, nxt 0 (by unfold r0S; rw [if_neg e0])⟩) (fun f s hI => by
      refine ⟨s, ?_, hI.1, fun k hk => hI.2 k (by omega)⟩
      try dsimp only
      rw [L_X12_series_38_s, if_pos (by omega)]) (f := N) (s := σ) (by omega) ⟨fr_rfl, fun k' h => absurd h (Nat.not_lt_zero _)⟩
  exact ⟨s1, e, h1, h2⟩
theorem X12_ser_in {N d m j : Nat} {s_ x2 x3 x5 x6 : Int} {r : Nat → Int} {σ : mS} (hN : 1000 ≤ N) (hd : d ≤ 200) (hm : 0 < m) (hm3 : m ≤ 3) (hs : s_ = 1 ∨ s_ = -1) (hj : j ≤ 2) (hr : S82 σ r d) (hb : ∀ k, k ≤ 200 → -p201 j ≤ r k ∧ r k ≤ p201 j) : ∃ σ', L_X12_series_116 N N (d : Int) x2 x3 x5 x6 (m : Int) s_ (m : Int) σ = some σ' ∧ fr [82] σ σ' ∧ S82 σ' (ps m s_ r) d := by
  have hb2 := ps_bd2 hm hs hb
  have hpj := p201_le (j := j + 1) (by omega)
  have hpj2 : p201 (j + 1) = p201 j * 201 := rfl
  have hpj0 : 0 ≤ p201 j := by
    have : j = 0 ∨ j = 1 ∨ j = 2 := by omega
    rcases this with rfl | rfl | rfl <;> decide
  by_cases hmd : m ≤ d
  · obtain ⟨s1, e, h1, h2⟩ := lp_up (L := fun f k s => L_X12_series_116 N f (d : Int) x2 x3 x5 x6 (m : Int) s_ k s) (I := fun k s => m ≤ k ∧ fr [82] σ s ∧ (∀ k', k' < k → k' ≤ d → s 82 0 k' = ps m s_ r k') ∧ ∀ k', k ≤ k' → k' ≤ d → s 82 0 k' = r k')
      (P := fun s => fr [82] σ s ∧ S82 s (ps m s_ r) d) (d + 1) (fun f k s hk hI => by
        obtain ⟨h0, h1, h2, h3⟩ := hI
        left
        have b1 := hb k (by omega)
        have b2 := hb2 (k - m) (by omega)
        have b3 := hb2 k (by omega)
        rw [← hpj2] at b2 b3
        have hst : r k + s_ * ps m s_ r (k - m) = ps m s_ r k := (ps_ge hm (by omega)).symm
        have x1 : mw ((k : Int) - (m : Int)) = ((k - m : Nat) : Int) := by rw [mw_id (by omega) (by omega)]; omega
        have x2 : mx (s_ * ps m s_ r (k - m)) = s_ * ps m s_ r (k - m) := by rcases hs with rfl | rfl <;> exact mx_id (by omega) (by omega)
        try dsimp only
        rw [L_X12_series_116_s, if_neg (by omega), x1, if_pos (by omega), tN, tN, h3 k (Nat.le_refl _) (by omega), h2 (k - m) (by omega) (by omega), x2, hst, mw_s (by omega), mx_id (z := ps m s_ r k) (by omega) (by omega)]
        refine ⟨_, rfl, by omega, fr_mup h1 (by decide), fun k' q1 q2 => ?_, fun k' q1 q2 => ?_⟩
        · by_cases ek : k' = k
          · subst ek; rw [mup_s]
          · rw [mup_k ek]; exact h2 k' (by omega) q2
        · rw [mup_k (by omega)]; exact h3 k' (by omega) q2) (fun f s hI => by
        refine ⟨s, ?_, hI.2.1, fun k hk => hI.2.2.1 k (by omega) hk⟩
        try dsimp only
        rw [L_X12_series_116_s, if_pos (by omega)]) N m σ (by omega) (by omega) ⟨Nat.le_refl _, fr_rfl, fun k' q1 q2 => by rw [ps_lt q1]; exact hr k' q2, fun k' _ q2 => hr k' q2⟩
    exact ⟨s1, e, h1, h2⟩
  · obtain ⟨K, hK⟩ : ∃ K, N = K + 1 := ⟨N - 1, by omega⟩
    refine ⟨σ, ?_, fr_rfl, fun k hk => by rw [ps_lt (by omega)]; exact hr k hk⟩
    rw [show L_X12_series_116 N N (d : Int) x2 x3 x5 x6 (m : Int) s_ (m : Int) σ = L_X12_series_116 N (K + 1) (d : Int) x2 x3 x5 x6 (m : Int) s_ (m : Int) σ from by rw [← hK], L_X12_series_116_s, if_pos (by omega)]
/-- the rings of the first letters -/
def rgR (t : tn) (i : Nat) : List (Nat × Int) := (([0, 1, 2].take i).filter fun i => rLe t i == i).map fun i => (rLo t i, rSg t i)
theorem rgR_s (t : tn) {i : Nat} (h : i < 3) : rgR t (i + 1) = rgR t i ++ if rLe t i = i then [(rLo t i, rSg t i)] else [] := by
  have e : [0, 1, 2].take (i + 1) = [0, 1, 2].take i ++ [i] := by
    have : i = 0 ∨ i = 1 ∨ i = 2 := by omega
    rcases this with rfl | rfl | rfl <;> rfl
  unfold rgR
  rw [e, List.filter_append, List.map_append]
  congr 1
  by_cases q : rLe t i = i
  · rw [if_pos q]
    simp [List.filter, q]
  · rw [if_neg q]
    simp only [List.filter, show (rLe t i == i) = false from by simpa using q]
    rfl
theorem rL_rg : ∀ t ∈ allT, ∀ i ∈ [0, 1, 2], 0 < rLo t i ∧ rLo t i ≤ 3 ∧ (rSg t i = 1 ∨ rSg t i = -1) := by decide +kernel
theorem roL_app (l l' : List (Nat × Int)) (r : Nat → Int) : roL (l ++ l') r = roL l' (roL l r) := by
  unfold roL
  rw [List.foldl_append]
theorem rgR_mem {t : tn} (ht : tok t) {i : Nat} : ∀ x, x ∈ rgR t i → 0 < x.1 ∧ (x.2 = 1 ∨ x.2 = -1) := fun x hx => by
  unfold rgR at hx
  obtain ⟨a, ha, rfl⟩ := List.mem_map.mp hx
  have h1 := List.mem_of_mem_take (List.mem_filter.mp ha).1
  have := rL_rg t (tok_mem.mp ht) a h1
  exact ⟨this.1, this.2.2⟩
theorem rgR_len (t : tn) : ∀ i, (rgR t i).length ≤ i := fun i => by
  unfold rgR
  rw [List.length_map]
  refine Nat.le_trans (List.length_filter_le _ _) ?_
  rw [List.length_take]
  exact Nat.min_le_left _ _
theorem X12_ser_one {N d g n : Nat} {x2 x3 : Int} {E : Nat → tn} {σ : mS} (hN : 1000 ≤ N) (hd : d ≤ 200) (H : RG σ E n) (hg : g < n) : ∃ s0 σ', L_X12_series_38 N N (d : Int) x2 x3 (g : Int) 0 σ = some s0 ∧ L_X12_series_70 N N (d : Int) x2 x3 (g : Int) 0 s0 = some σ' ∧ fr [82] σ σ' ∧ σ' 82 0 d = oD (E g) d := by
  have ht := H.2.2.2.2.1 g hg
  obtain ⟨s0, a1, a2, a3⟩ := X12_ser_0 (N := N) (d := d) (x2 := x2) (x3 := x3) (x5 := (g : Int)) (σ := σ) hN hd
  obtain ⟨s1, e, h1, h2⟩ := lp_0 (L := fun f k s => L_X12_series_70 N f (d : Int) x2 x3 (g : Int) k s) (I := fun i s => fr [82] σ s ∧ S82 s (roL (rgR (E g) i) r0S) d)
    (P := fun s => fr [82] σ s ∧ S82 s (roL (rgl (E g)) r0S) d) 3 (fun f i s hi hI => by
      obtain ⟨h1, h2⟩ := hI
      left
      have Hs := RG_fr H h1 (by decide) (by decide)
      obtain ⟨m1, m2, m3⟩ := rL_rg (E g) (tok_mem.mp ht) i (m012 hi)
      try dsimp only
      rw [L_X12_series_70_s, if_neg (by omega), X12_ringLeast_eq (by omega) Hs hg hi, Option.bind_some, mw_s (by omega)]
      try dsimp only
      by_cases q : rLe (E g) i = i
      · have hlen := rgR_len (E g) i
        have hbd := roL_bd (rgR (E g) i) 0 r0S (rgR_mem ht) r0S_bd
        rw [Nat.zero_add] at hbd
        obtain ⟨s3, r1, r2, r3⟩ := X12_ser_in (N := N) (d := d) (m := rLo (E g) i) (j := (rgR (E g) i).length) (s_ := rSg (E g) i) (x2 := x2) (x3 := x3) (x5 := (g : Int)) (x6 := (i : Int)) (r := roL (rgR (E g) i) r0S) (σ := s) hN hd m1 m2 m3 (by omega) h2 hbd
        rw [if_pos (by omega), X12_ringLong_eq (by omega) Hs hg hi, Option.bind_some]
        try dsimp only
        rw [X12_ringSign_eq (by omega) Hs hg hi, Option.bind_some]
        try dsimp only
        rw [r1, Option.bind_some]
        refine ⟨s3, rfl, fr_trans h1 r2, ?_⟩
        rw [rgR_s _ hi, if_pos q, roL_app]
        exact r3
      · rw [if_neg (by omega)]
        refine ⟨s, rfl, h1, ?_⟩
        rw [rgR_s _ hi, if_neg q, List.append_nil]
        exact h2) (fun f s hI => by
      refine ⟨s, ?_, hI.1, ?_⟩
      · try dsimp only
        rw [L_X12_series_70_s, if_pos (by omega)]
      · rw [(rgl_ok (E g) (tok_mem.mp ht)).2.2]
        exact hI.2) (f := N) (s := s0) (by omega) ⟨a2, a3⟩
  exact ⟨s0, s1, a1, e, h1, h2 d (Nat.le_refl _)⟩
theorem X12_series_eq {N d c n : Nat} {E : Nat → tn} {sg : Nat → Int} {σ : mS} (hN : 1000 ≤ N) (hd : d ≤ 200) (hc : c < 16) (H : RG σ E n) (hsg : ∀ g, g < n → σ 79 0 (48 * c + g) = sg g ∧ (sg g = 1 ∨ sg g = -1)) :
    ∃ o, L_X12_series_26 N N (d : Int) (c : Int) 0 0 σ = some o ∧ fr [82] σ o.2 ∧ o.1 = srs E n sg d ∧ mw (o_ldiv o.1 (o.2 71 0 6)) = (srs E n sg d).tdiv (n : Int) := by
  have h48 := RG_48 H
  have hG := H.2.2
  have hbd : ∀ g, g ≤ n → -((g : Int) * 8120601) ≤ sm (fun g => sg g * oD (E g) d) g ∧ sm (fun g => sg g * oD (E g) d) g ≤ g * 8120601 := fun g hg => by
    have b1 := sm_le (F := fun g => sg g * oD (E g) d) (B := 8120601) g (fun g' hg' => (ter_bd hG (by omega) hd (hsg g' (by omega)).2).2)
    have b2 := sm_ge (F := fun g => sg g * oD (E g) d) (B := -8120601) g (fun g' hg' => (ter_bd hG (by omega) hd (hsg g' (by omega)).2).1)
    omega
  obtain ⟨⟨v, s'⟩, e, h1, h2⟩ := lp2_0 (L := fun f k a s => L_X12_series_26 N f (d : Int) (c : Int) a k s) (I := fun g a s => a = sm (fun g => sg g * oD (E g) d) g ∧ fr [82] σ s)
    (P := fun o => o.1 = srs E n sg d ∧ fr [82] σ o.2) n (fun f g a s hg hI => by
      obtain ⟨h1, h2⟩ := hI
      subst h1
      left
      have Hs := RG_fr H h2 (by decide) (by decide)
      obtain ⟨s0, s1, r1, r2, r3, r4⟩ := X12_ser_one (N := N) (d := d) (x2 := (c : Int)) (x3 := sm (fun g => sg g * oD (E g) d) g) hN hd Hs hg
      obtain ⟨g1, g2⟩ := hsg g hg
      have b0 := ter_bd hG hg hd g2
      have b1 := hbd g (by omega)
      try dsimp only
      rw [L_X12_series_26_s, Hs.1, if_neg (by omega), r1, Option.bind_some, r2, Option.bind_some, mw48 hc (by omega), if_pos (by omega), tN, tN, (fr_trans h2 r3) 79 _ _ (by decide), g1, r4, mw_s (by omega), mx_id (z := sg g * oD (E g) d) (by omega) (by omega), mx_id (by omega) (by omega)]
      exact ⟨_, s1, rfl, rfl, fr_trans h2 r3⟩) (fun f a s hI => by
      have Hs := RG_fr H hI.2 (by decide) (by decide)
      refine ⟨(a, s), ?_, hI.1, hI.2⟩
      try dsimp only
      rw [L_X12_series_26_s, Hs.1, if_pos (by omega)]) (f := N) (a := 0) (s := σ) (by omega) ⟨rfl, fr_rfl⟩
  refine ⟨(v, s'), e, h2, h1, ?_⟩
  try dsimp only at h1 h2 ⊢
  have hb := hbd n (Nat.le_refl _)
  have hn0 := hG.1
  have hs : srs E n sg d = sm (fun g => sg g * oD (E g) d) n := rfl
  rw [h2 71 _ _ (by decide), H.1, h1]
  obtain ⟨q1, q2⟩ := o_ldiv_gen (a := srs E n sg d) (b := (n : Int)) (by omega) (by omega) (by omega) (by omega)
  rw [q1, q2]
