/-! the class's signs -/
theorem X9_given_eq {N m c t : Nat} {σ : mS} (hm : σ 5 0 1 = (m : Int)) (h4 : m ≤ 4) (hc : c < 16) (ht : t < m) : f_X9_given N (c : Int) (t : Int) σ = some (vC m c t, σ) := by
  have h := gv_bits m (List.mem_range.mpr (by omega)) c (List.mem_range.mpr hc) t (List.mem_range.mpr ht)
  unfold f_X9_given vC
  rw [hm]
  by_cases q : (c >>> (m - 1 - t)) % 2 = 0
  · rw [decide_eq_true q] at h
    rw [if_pos (of_decide_eq_true h), if_pos q]
  · rw [decide_eq_false q] at h
    rw [if_neg (of_decide_eq_false h), if_neg q]
theorem mw_pm {a b : Int} (ha : a = 1 ∨ a = -1) (hb : b = 1 ∨ b = -1) : mw (a * b) = a * b := by
  rcases ha with rfl | rfl <;> rcases hb with rfl | rfl <;> decide
theorem X9_fillRow_eq {N : Nat} {M : Nat → tn} {m c y : Nat} {σ : mS} (hN : 100 ≤ N) (H : CGr σ M m) (hc : c < 16) : ∃ σ', f_X9_fillRow_r28 N (c : Int) y σ = some σ' ∧ fr [28] σ σ' ∧ (∀ q k, q ≠ y → σ' 28 q k = σ 28 q k) ∧ ∀ g, g < (bfs M m).length → σ' 28 y g = rwc m (bfs M m) c g := by
  have h48 := CG_48 H.1
  have hm4 := H.1.2.2.2.2.2.1
  have hGn := H.1.2.2.2.1
  have hl0 := H.1.2.2.1.1
  obtain ⟨s1, e, h1, h2, h3⟩ := lp_up (L := fun f k s => L_X9_fillRow_r28_6 N f (c : Int) y k s) (I := fun i s => 0 < i ∧ fr [28] σ s ∧ (∀ q k, q ≠ y → s 28 q k = σ 28 q k) ∧ ∀ g, g < i → s 28 y g = rwc m (bfs M m) c g)
    (P := fun s => fr [28] σ s ∧ (∀ q k, q ≠ y → s 28 q k = σ 28 q k) ∧ ∀ g, g < (bfs M m).length → s 28 y g = rwc m (bfs M m) c g) (bfs M m).length (fun f i s hi hI => by
      obtain ⟨h0, h1, h2, h3⟩ := hI
      left
      have Hs := CGr_ag H (ag_fr h1 (by decide))
      obtain ⟨q1, q2, q3⟩ := hGn i h0 hi
      obtain ⟨m1, m2⟩ := Hs.1.1.2.2.2 i hi
      have e1 := rwv_pm hGn (vC_pm m c) _ (show bF (bfs M m) i < (bfs M m).length by omega)
      have e2 := vC_pm m c _ q2
      try dsimp only
      rw [L_X9_fillRow_r28_6_s, Hs.1.1.1, if_neg (by omega), tN, m1, m2, if_pos (by omega), X9_given_eq Hs.2.1 hm4 hc q2, Option.bind_some]
      try dsimp only
      rw [if_pos (by omega), tN, h3 _ q1, mw_s (by omega), show mw (rwc m (bfs M m) c (bF (bfs M m) i) * vC m c (bB (bfs M m) i)) = rwc m (bfs M m) c i from (by
        rw [show rwc m (bfs M m) c i = rwc m (bfs M m) c (bF (bfs M m) i) * vC m c (bB (bfs M m) i) from rwv_s hGn _ h0 hi]
        exact mw_pm e1 e2)]
      refine ⟨_, rfl, by omega, fr_mup h1 (by decide), fun q k hq => by rw [mup_i hq]; exact h2 q k hq, fun g hg => ?_⟩
      by_cases eg : g = i
      · subst eg; rw [mup_s]
      · rw [mup_k eg]; exact h3 g (by omega)) (fun f s hI => by
      obtain ⟨h0, h1, h2, h3⟩ := hI
      have Hs := CGr_ag H (ag_fr h1 (by decide))
      refine ⟨s, ?_, h1, h2, h3⟩
      try dsimp only
      rw [L_X9_fillRow_r28_6_s, Hs.1.1.1, if_pos (by omega)]) N 1 (mup σ 28 y 0 1) (by omega) (by omega) ⟨by omega, fr_mup fr_rfl (by decide), fun q k hq => mup_i hq, fun g hg => by
        have : g = 0 := by omega
        subst this
        rw [mup_s]; rfl⟩
  refine ⟨s1, ?_, h1, h2, h3⟩
  unfold f_X9_fillRow_r28
  rw [show (1 : Int) = ((1 : Nat) : Int) from rfl] at *
  try dsimp only at e
  rw [e]
  rfl
/-- the place of an element and then a turn -/
theorem WT_gm {M : Nat → tn} {m : Nat} {σ : mS} (H : CGr σ M m) {g t : Nat} (hg : g < (bfs M m).length) (ht : t < m) : σ 12 g t = (gm (bE (bfs M m)) (bfs M m).length g (mel M (bfs M m) t) : Int) := by
  obtain ⟨k, y1, y2, y3⟩ := H.1.2.1 g hg t ht
  obtain ⟨t1, t2⟩ := Hm_bfs H.1.2.2.2.2.2.2 t ht
  rw [y2, gm_eq H.2.2.1.2.1 hg t1 y1 (by rw [y3, t2])]
theorem X9_isSign_eq {N : Nat} {M : Nat → tn} {m c y : Nat} {σ : mS} (hN : 100 ≤ N) (H : CGr σ M m) (hc : c < 16) (hr : ∀ g, g < (bfs M m).length → σ 28 y g = rwc m (bfs M m) c g) : f_X9_isSign_r28 N (c : Int) y σ = some (bi (vlb M m (bfs M m) (vC m c)), σ) := by
  have h48 := CG_48 H.1
  have hm4 := H.1.2.2.2.2.2.1
  have hGn := H.1.2.2.2.1
  have hGP := H.2.2.1.2.1
  have hn := H.1.1.1
  have inn : ∀ t, t < m → ∃ o, L_X9_isSign_r28_21 N N (c : Int) y (t : Int) (vC m c t) 0 σ = some o ∧ ((alb (fun g => decide (rwv (bfs M m) (vC m c) (gm (bE (bfs M m)) (bfs M m).length g (mel M (bfs M m) t)) = rwv (bfs M m) (vC m c) g * vC m c t)) (bfs M m).length = true ∧ o = .inr σ) ∨ (alb (fun g => decide (rwv (bfs M m) (vC m c) (gm (bE (bfs M m)) (bfs M m).length g (mel M (bfs M m) t)) = rwv (bfs M m) (vC m c) g * vC m c t)) (bfs M m).length = false ∧ o = .inl (0, σ))) := by
    intro t ht
    refine lp_0 (S := mS) (L := fun f k s => L_X9_isSign_r28_21 N f (c : Int) y (t : Int) (vC m c t) k s) (I := fun i s => s = σ ∧ alb (fun g => decide (rwv (bfs M m) (vC m c) (gm (bE (bfs M m)) (bfs M m).length g (mel M (bfs M m) t)) = rwv (bfs M m) (vC m c) g * vC m c t)) i = true) _ (bfs M m).length (fun f i s hi hI => ?_) (fun f s hI => ?_) (by omega) ⟨rfl, rfl⟩
    · obtain ⟨h1, h2⟩ := hI
      subst h1
      have hw := WT_gm H hi ht
      have hgm := (gm_ok hGP hi (Hm_bfs H.1.2.2.2.2.2.2 t ht).1).1
      have e1 := rwv_pm hGn (vC_pm m c) i hi
      have e2 := vC_pm m c t ht
      try dsimp only
      rw [L_X9_isSign_r28_21_s, hn, if_neg (by omega), tN, tN, hw, if_pos (by omega), tN, hr _ hgm, hr i hi, mw_s (by omega), show mw (rwc m (bfs M m) c i * vC m c t) = rwc m (bfs M m) c i * vC m c t from mw_pm e1 e2]
      by_cases q : rwc m (bfs M m) c (gm (bE (bfs M m)) (bfs M m).length i (mel M (bfs M m) t)) = rwc m (bfs M m) c i * vC m c t
      · rw [if_pos q]
        exact Or.inl ⟨_, rfl, rfl, by rw [alb_s, h2]; exact decide_eq_true q⟩
      · rw [if_neg q]
        exact Or.inr ⟨_, rfl, Or.inr ⟨alb_no (k := i) (decide_eq_false q) hi, rfl⟩⟩
    · obtain ⟨h1, h2⟩ := hI
      subst h1
      try dsimp only
      rw [L_X9_isSign_r28_21_s, hn, if_pos (by omega)]
      exact ⟨_, rfl, Or.inl ⟨h2, rfl⟩⟩
  obtain ⟨o, e, h⟩ := lp_0 (S := mS) (L := fun f k s => L_X9_isSign_r28_2 N f (c : Int) y k s) (I := fun i s => s = σ ∧ alb (fun t => alb (fun g => decide (rwv (bfs M m) (vC m c) (gm (bE (bfs M m)) (bfs M m).length g (mel M (bfs M m) t)) = rwv (bfs M m) (vC m c) g * vC m c t)) (bfs M m).length) i = true) (P := fun o => (vlb M m (bfs M m) (vC m c) = true ∧ o = .inr σ) ∨ (vlb M m (bfs M m) (vC m c) = false ∧ o = .inl (0, σ))) m (fun f i s hi hI => by
      obtain ⟨h1, h2⟩ := hI
      subst h1
      obtain ⟨o, q1, q2⟩ := inn i hi
      try dsimp only
      rw [L_X9_isSign_r28_2_s, H.2.1, if_neg (by omega), X9_given_eq H.2.1 hm4 hc hi, Option.bind_some]
      try dsimp only
      rw [q1, Option.bind_some, mw_s (by omega)]
      rcases q2 with ⟨a, rfl⟩ | ⟨a, rfl⟩
      · exact Or.inl ⟨_, rfl, rfl, by rw [alb_s, h2]; exact a⟩
      · exact Or.inr ⟨_, rfl, Or.inr ⟨alb_no (k := i) a hi, rfl⟩⟩) (fun f s hI => by
      obtain ⟨h1, h2⟩ := hI
      subst h1
      try dsimp only
      rw [L_X9_isSign_r28_2_s, H.2.1, if_pos (by omega)]
      exact ⟨_, rfl, Or.inl ⟨h2, rfl⟩⟩) (f := N) (s := σ) (by omega) ⟨rfl, rfl⟩
  unfold f_X9_isSign_r28
  try dsimp only at e
  rw [e, Option.bind_some]
  rcases h with ⟨a, rfl⟩ | ⟨a, rfl⟩
  · rw [a]; rfl
  · rw [a]; rfl
/-- the class bears the signs -/
def CS (σ : mS) (M : Nat → tn) (m : Nat) (l : List Nat) : Prop := σ 26 0 0 = (l.length : Int) ∧ ∀ k, k < l.length → ∀ g, g < (bfs M m).length → σ 28 k g = rwc m (bfs M m) (l.getD k 0) g
theorem X9_makeOf_eq {N : Nat} {M : Nat → tn} {m : Nat} {σ : mS} (hN : 100 ≤ N) (H : CGr σ M m) : ∃ σ', f_X9_makeOf N σ = some σ' ∧ fr [26, 28] σ σ' ∧ CS σ' M m (sgs M m (2 ^ m)) := by
  have h48 := CG_48 H.1
  have hm4 := H.1.2.2.2.2.2.1
  have hsh := shl_bits m (List.mem_range.mpr (by omega))
  have h16 := pw16 m (List.mem_range.mpr (by omega))
  obtain ⟨s1, e, h1, h2⟩ := lp_0 (L := fun f k s => L_X9_makeOf_7 N f k s) (I := fun i s => fr [26, 28] σ s ∧ CS s M m (sgs M m i))
    (P := fun s => fr [26, 28] σ s ∧ CS s M m (sgs M m (2 ^ m))) (2 ^ m) (fun f i s hi hI => by
      obtain ⟨h1, h2, h3⟩ := hI
      left
      have Hs := CGr_ag H (ag_fr h1 (by decide))
      have hle := sgs_le M m i
      obtain ⟨s2, r1, r2, r3, r4⟩ := X9_fillRow_eq (N := N) (c := i) (y := (sgs M m i).length) hN Hs (by omega)
      have Hs2 := CGr_ag Hs (ag_fr r2 (by decide))
      try dsimp only
      rw [L_X9_makeOf_7_s, Hs.2.1, hsh, if_neg (by omega), h2, if_neg (by omega), if_pos (by omega), tN, r1, Option.bind_some, r2 26 0 0 (by decide), h2, if_pos (by omega), tN, X9_isSign_eq hN Hs2 (by omega) r4, Option.bind_some]
      try dsimp only
      rw [r2 26 0 0 (by decide), h2, mw_s (by omega), mw_s (by omega)]
      have old : ∀ k, k < (sgs M m i).length → ∀ g, g < (bfs M m).length → s2 28 k g = rwc m (bfs M m) ((sgs M m i).getD k 0) g := fun k hk g hg => by rw [r3 k g (by omega)]; exact h3 k hk g hg
      cases hv : vlb M m (bfs M m) (vC m i) with
      | false =>
        rw [if_pos bi_f]
        refine ⟨_, rfl, fr_trans h1 (fr_sub r2 (fun r hr => by simp at hr ⊢; omega)), ?_⟩
        rw [sgs_s, hv, if_neg (by decide), List.append_nil]
        exact ⟨by rw [r2 26 0 0 (by decide)]; exact h2, old⟩
      | true =>
        rw [if_neg (by decide)]
        refine ⟨_, rfl, fr_mup (fr_trans h1 (fr_sub r2 (fun r hr => by simp at hr ⊢; omega))) (by decide), ?_⟩
        rw [sgs_s, hv, if_pos rfl]
        refine ⟨by rw [mup_s]; simp, fun k hk g hg => ?_⟩
        rw [mup_r (by decide)]
        by_cases ek : k < (sgs M m i).length
        · rw [List.getD_eq_getElem?_getD, List.getElem?_append_left ek, ← List.getD_eq_getElem?_getD]
          exact old k ek g hg
        · have : k = (sgs M m i).length := by simp at hk; omega
          subst this
          rw [List.getD_eq_getElem?_getD, List.getElem?_append_right (Nat.le_refl _), Nat.sub_self]
          exact r4 g hg) (fun f s hI => by
      have Hs := CGr_ag H (ag_fr hI.1 (by decide))
      refine ⟨s, ?_, hI⟩
      try dsimp only
      rw [L_X9_makeOf_7_s, Hs.2.1, hsh, if_pos (by omega)]) (f := N) (s := mup σ 26 0 0 0) (by omega) ⟨fr_mup fr_rfl (by decide), mup_s _ _ _ _ _, fun k hk => absurd hk (Nat.not_lt_zero _)⟩
  refine ⟨s1, ?_, h1, h2⟩
  unfold f_X9_makeOf
  try dsimp only at e
  rw [e]
  rfl
theorem X11_makeGroup_eq {N : Nat} {T : Nat → Option tn} {σ : mS} (hN : 1000 ≤ N) (hT : TC σ T) : ∃ σ', f_X11_makeGroup N σ = some σ' ∧ CGr σ' (mkM T) (mkl T 4).length ∧ CS σ' (mkM T) (mkl T 4).length (sgs (mkM T) (mkl T 4).length (2 ^ (mkl T 4).length)) ∧ σ' 42 0 1 = 0 ∧ fr [5, 7, 8, 10, 12, 13, 14, 16, 17, 18, 19, 20, 21, 22, 23, 24, 25, 26, 28, 42] σ σ' ∧ ∀ k, k ≠ 1 → σ' 42 0 k = σ 42 0 k := by
  obtain ⟨s1, a1, a2, a3⟩ := X1_makeOf_eq hN hT
  obtain ⟨s2, b1, b2, b3⟩ := X9_makeOf_eq (N := N) (by omega) a2
  refine ⟨mup s2 42 0 1 0, ?_, CGr_ag a2 (ag_fr (fr_mup (R := [26, 28, 42]) (fr_sub b2 (fun r hr => by simp at hr ⊢; omega)) (by decide)) (by decide)), ?_, mup_s _ _ _ _ _, fr_mup (fr_trans (fr_sub a3 (fun r hr => by simp at hr ⊢; omega)) (fr_sub b2 (fun r hr => by simp at hr ⊢; omega))) (by decide), fun k hk => ?_⟩
  · unfold f_X11_makeGroup f_X0_forget
    rw [a1, Option.bind_some, b1, Option.bind_some]
    rfl
  · exact ⟨by rw [mup_r (by decide)]; exact b3.1, fun k hk g hg => by rw [mup_r (by decide)]; exact b3.2 k hk g hg⟩
  · rw [mup_k hk, b2 42 0 k (by decide), a3 42 0 k (by decide)]
