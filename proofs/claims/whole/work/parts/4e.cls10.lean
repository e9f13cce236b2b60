/-! the class's group as it is made -/
/-- the stores agree in these regions -/
def ag (L : List Nat) (σ σ' : mS) : Prop := ∀ r, r ∈ L → ∀ i k, σ' r i k = σ r i k
theorem ag_fr {L R : List Nat} {σ σ' : mS} (h : fr R σ σ') (hd : ∀ r, r ∈ L → r ∉ R) : ag L σ σ' := fun r hr i k => h r i k (hd r hr)
theorem tky_lt {t : tn} (h : tok t) : tky t < 343 := by
  obtain ⟨a, b, c⟩ := t
  have r1 := cok_rg h.1
  have r2 := cok_rg h.2.1
  have r3 := cok_rg h.2.2.1
  try dsimp only at r1 r2 r3
  unfold tky
  try dsimp only
  omega
/-- all that the class holds of the group that the turns M 0 .. make -/
def CGr (σ : mS) (M : Nat → tn) (m : Nat) : Prop := CG σ M m (bfs M m) ∧ σ 5 0 1 = (m : Int) ∧ CT σ (bE (bfs M m)) (bfs M m).length ∧ (∀ g, g < (bfs M m).length → σ 17 0 g = (gv (bE (bfs M m)) (bfs M m).length g : Int) ∧ σ 18 0 g = (gor (bE (bfs M m)) (bfs M m).length g : Int)) ∧ CC σ (bE (bfs M m)) (bfs M m).length (bfs M m).length ∧ σ 5 0 3 = (ct (fun g => mir (bE (bfs M m) g)) (bfs M m).length : Int) ∧ ∀ g, g < (bfs M m).length → σ 22 0 g = if mir (bE (bfs M m) g) = true then 1 else 0
theorem CGr_ag {σ σ' : mS} {M : Nat → tn} {m : Nat} (h : CGr σ M m) (hf : ag [5, 7, 8, 12, 13, 14, 16, 17, 18, 19, 20, 21, 22] σ σ') : CGr σ' M m := by
  obtain ⟨⟨⟨a1, a2, a3, a4⟩, a5, a6⟩, b, ⟨c1, c2, c3⟩, d, ⟨e1, e2, e3⟩, f, g⟩ := h
  refine ⟨⟨⟨by rw [hf 5 (by decide)]; exact a1, fun k hk => ?_, fun t ht => by rw [hf 8 (by decide)]; exact a3 t ht, fun k hk => by rw [hf 13 (by decide), hf 14 (by decide)]; exact a4 k hk⟩, fun g hg t ht => ?_, a6⟩, by rw [hf 5 (by decide)]; exact b, ⟨by rw [hf 5 (by decide)]; exact c1, c2, fun x hx y hy => by rw [hf 16 (by decide)]; exact c3 x hx y hy⟩, fun g hg => by rw [hf 17 (by decide), hf 18 (by decide)]; exact d g hg, ⟨by rw [hf 5 (by decide)]; exact e1, fun k hk => by rw [hf 19 (by decide)]; exact e2 k hk, fun c hc => ?_⟩, by rw [hf 5 (by decide)]; exact f, fun x hx => by rw [hf 22 (by decide)]; exact g x hx⟩
  · unfold elC
    rw [hf 7 (by decide), hf 7 (by decide), hf 7 (by decide)]
    exact a2 k hk
  · obtain ⟨k, y1, y2, y3⟩ := a5 g hg t ht
    exact ⟨k, y1, by rw [hf 12 (by decide)]; exact y2, y3⟩
  · obtain ⟨l, l1, l2, l3, l4⟩ := e3 c hc
    exact ⟨l, l1, by rw [hf 20 (by decide)]; exact l2, l3, by rw [hf 21 (by decide)]; exact l4⟩
theorem X1_makeOf_eq {N : Nat} {T : Nat → Option tn} {σ : mS} (hN : 1000 ≤ N) (hT : TC σ T) : ∃ σ', f_X1_makeOf N σ = some σ' ∧ CGr σ' (mkM T) (mkl T 4).length ∧ fr [5, 7, 8, 10, 12, 13, 14, 16, 17, 18, 19, 20, 21, 22, 23, 24, 25] σ σ' := by
  obtain ⟨s1, a1, a2, a3, a4⟩ := X1_takeTurns_eq (N := N) (by omega) hT
  have hCM : CM s1 (mkM T) (mkl T 4).length := CM_of hT a2
  generalize hs2 : msv (mup s1 5 0 0 0) 8 0 343 (-1) = s2
  have hB0 : CB s2 [] := by
    subst hs2
    refine ⟨by unfold msv; rw [if_neg (by omega), mup_s]; rfl, fun k hk => absurd hk (Nat.not_lt_zero _), fun t ht => ?_, fun k hk => absurd hk (Nat.not_lt_zero _)⟩
    unfold msv
    rw [if_pos ⟨rfl, rfl, tky_lt ht⟩]
    rfl
  have f2 : fr [5, 8] s1 s2 := by
    subst hs2
    intro r i k hr
    unfold msv
    rw [if_neg (fun q => hr (by rw [q.1]; decide)), mup_r (fun q => hr (by rw [q]; decide))]
  have k2 : s2 5 0 1 = s1 5 0 1 := by
    subst hs2
    unfold msv
    rw [if_neg (by omega), mup_k (by decide)]
  obtain ⟨s3, b1, b2, b3⟩ := X1_findOrAdd_eq (N := N) (c := tid) (g := 0) (t := 0) hB0 tid_ok (by decide) (fun _ => by decide)
  have hb0 : bAd tid 0 0 [] = b0 := rfl
  rw [hb0] at b1 b2
  have hCM3 : CM s3 (mkM T) (mkl T 4).length := by
    refine ⟨by rw [b3.2 1 (by decide), k2]; exact hCM.1, hCM.2.1, fun t ht => ?_⟩
    rw [b3.1 10 _ _ (by decide), b3.1 10 _ _ (by decide), b3.1 10 _ _ (by decide), f2 10 _ _ (by decide), f2 10 _ _ (by decide), f2 10 _ _ (by decide)]
    exact hCM.2.2 t ht
  obtain ⟨s4, c1, c2, c3, c4⟩ := X1_makeOf_out (N := N) (M := mkM T) (m := (mkl T 4).length) (by omega) 49 0 N s3 b0 (by omega) (Nat.zero_le _) (by omega) b2 hCM3 Bi_0 (fun g' h => absurd h (Nat.not_lt_zero _))
  have hM : ∀ t, t < (mkl T 4).length → tok (mkM T t) := fun t ht => (hCM.2.2 t ht).2
  have hCG : CG s4 (mkM T) (mkl T 4).length (bfs (mkM T) (mkl T 4).length) := ⟨c2, c4, (bfs_ok hM).1, Gn_bfs hM, GP_bfs hM, hCM.2.1, hM⟩
  have h48 := CG_48 hCG
  have hGP := GP_bfs hM
  obtain ⟨s5, d1, d2, d3⟩ := X1_fillTable_eq (N := N) (by omega) hCG
  have hCT5 : CT s5 (bE (bfs (mkM T) (mkl T 4).length)) (bfs (mkM T) (mkl T 4).length).length := ⟨by rw [d2 5 0 0 (by decide)]; exact hCG.1.1, hGP, d3⟩
  obtain ⟨s6, e1, e2, e3⟩ := X1_backs_eq (N := N) (by omega) hCT5
  have hCT6 := CT_fr hCT5 e2 (by decide) (by decide)
  obtain ⟨s7, g1, g2, g3, g4⟩ := X1_fillClasses_eq hN ⟨hCT6, fun g hg => (e3 g hg).1⟩
  have el7 : ∀ g, g < (bfs (mkM T) (mkl T 4).length).length → elC s7 g = bE (bfs (mkM T) (mkl T 4).length) g := fun g hg => by
    rw [← hCG.1.2.1 g hg]
    unfold elC
    rw [g2 7 _ _ (by decide), g2 7 _ _ (by decide), g2 7 _ _ (by decide), e2 7 _ _ (by decide), e2 7 _ _ (by decide), e2 7 _ _ (by decide), d2 7 _ _ (by decide), d2 7 _ _ (by decide), d2 7 _ _ (by decide)]
  have n7 : s7 5 0 0 = ((bfs (mkM T) (mkl T 4).length).length : Int) := by rw [g3 0 (by decide)]; exact hCT6.1
  obtain ⟨s8, i1, i2, i3, i4, i5⟩ := X1_fillMirrors_eq (N := N) (by omega) n7 hGP el7
  refine ⟨s8, ?_, ?_, ?_⟩
  · unfold f_X1_makeOf
    rw [a1, Option.bind_some, fill_r8 hN, hs2, Option.bind_some, show f_X1_findOrAdd N 1 2 3 0 0 s2 = _ from b1, Option.bind_some]
    try dsimp only
    rw [show L_X1_makeOf_30 N N 0 s3 = L_X1_makeOf_30 N N ((0 : Nat) : Int) s3 from rfl, c1, Option.bind_some, d1, Option.bind_some, e1, Option.bind_some, g1, Option.bind_some, i1, Option.bind_some]
  · have f58 : fr [5, 16, 17, 18, 19, 20, 21, 22, 23, 24, 25] s4 s8 := fr_trans (fr_sub d2 (fun r hr => by simp at hr ⊢; omega)) (fr_trans (fr_sub e2 (fun r hr => by simp at hr ⊢; omega)) (fr_trans (fr_sub g2 (fun r hr => by simp at hr ⊢; omega)) (fr_sub i2 (fun r hr => by simp at hr ⊢; omega))))
    have n8 : s8 5 0 0 = ((bfs (mkM T) (mkl T 4).length).length : Int) := by rw [i3 0 (by decide)]; exact n7
    refine ⟨⟨⟨n8, fun k hk => ?_, fun t ht => by rw [f58 8 _ _ (by decide)]; exact c2.2.2.1 t ht, fun k hk => by rw [f58 13 _ _ (by decide), f58 14 _ _ (by decide)]; exact c2.2.2.2 k hk⟩, fun g hg t ht => ?_, hCG.2.2⟩, ?_, ⟨n8, hGP, fun x hx y hy => ?_⟩, fun g hg => ?_, ⟨by rw [i3 2 (by decide)]; exact g4.1, fun k hk => by rw [i2 19 _ _ (by decide)]; exact g4.2.1 k hk, fun c hc => ?_⟩, i4, i5⟩
    · unfold elC
      rw [f58 7 _ _ (by decide), f58 7 _ _ (by decide), f58 7 _ _ (by decide)]
      exact c2.2.1 k hk
    · obtain ⟨k, y1, y2, y3⟩ := c4 g hg t ht
      exact ⟨k, y1, by rw [f58 12 _ _ (by decide)]; exact y2, y3⟩
    · rw [i3 1 (by decide), g3 1 (by decide), e2 5 _ _ (by decide), d2 5 _ _ (by decide), c3.2 1 (by decide)]
      exact hCM3.1
    · rw [i2 16 _ _ (by decide), g2 16 _ _ (by decide), e2 16 _ _ (by decide)]
      exact d3 x hx y hy
    · rw [i2 17 _ _ (by decide), i2 18 _ _ (by decide), g2 17 _ _ (by decide), g2 18 _ _ (by decide)]
      exact e3 g hg
    · obtain ⟨l, l1, l2, l3, l4⟩ := g4.2.2 c hc
      exact ⟨l, l1, by rw [i2 20 _ _ (by decide)]; exact l2, l3, by rw [i2 21 _ _ (by decide)]; exact l4⟩
  · refine fr_trans (fr_sub a3 (fun r hr => by simp at hr ⊢; omega)) (fr_trans (fr_sub f2 (fun r hr => by simp at hr ⊢; omega)) (fr_trans (fr_sub b3.1 (fun r hr => by simp at hr ⊢; omega)) (fr_trans (fr_sub c3.1 (fun r hr => by simp at hr ⊢; omega)) (fr_trans (fr_sub d2 (fun r hr => by simp at hr ⊢; omega)) (fr_trans (fr_sub e2 (fun r hr => by simp at hr ⊢; omega)) (fr_trans (fr_sub g2 (fun r hr => by simp at hr ⊢; omega)) (fr_sub i2 (fun r hr => by simp at hr ⊢; omega))))))))
