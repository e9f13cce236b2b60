/-! the reference's group(), up to what it finds of it; the classes -/
theorem X12_group_ok {N : Nat} {T : Nat → Option tn} {σ : mS} (hN : 100 ≤ N) (hT : TR σ T) (h0 : elR σ 0 = tid) :
    ∃ s2, f_X12_group N σ = Option.bind (f_X12_finds N s2) (fun s => some (s 71 0 6, s)) ∧ RB s2 (bfs (mkM T) (mkl T 4).length) ∧ RM s2 (mkM T) (mkl T 4).length ∧ fr [71, 74, 75, 76, 77] σ s2 ∧ ∀ k, k ≠ 6 → k ≠ 7 → s2 71 0 k = σ 71 0 k := by
  generalize ha : mup (mup σ 71 0 6 1) 71 0 7 0 = sa
  have fa : fr [71] σ sa := by subst ha; exact fr_mup (fr_mup fr_rfl (by decide)) (by decide)
  have ka : ∀ k, k ≠ 6 → k ≠ 7 → sa 71 0 k = σ 71 0 k := fun k h1 h2 => by subst ha; rw [mup_k h2, mup_k h1]
  have a6 : sa 71 0 6 = 1 := by subst ha; rw [mup_k (by decide), mup_s]
  have a7 : sa 71 0 7 = 0 := by subst ha; rw [mup_s]
  have hTa : TR sa T := fun i hi => by
    rw [fa 72 0 _ (by decide), fa 73 0 _ (by decide), fa 73 0 _ (by decide), fa 73 0 _ (by decide)]
    exact hT i hi
  obtain ⟨sb, r1, r2, r3, r4⟩ := X12_group_mk hN 4 0 N sa (by omega) (by omega) hTa ⟨a7, fun t ht => absurd ht (Nat.not_lt_zero _)⟩
  have hm4 : (mkl T 4).length ≤ 4 := mkl_len T 4
  have hRM : RM sb (mkM T) (mkl T 4).length := by
    refine ⟨r2.1, hm4, fun t ht => ⟨r2.2 t ht, ?_⟩⟩
    refine mkl_tok hT 4 (Nat.le_refl _) _ ?_
    unfold mkM
    rw [List.getD_eq_getElem?_getD, List.getElem?_eq_getElem ht]
    exact List.getElem_mem ht
  have hRB : RB sb b0 := by
    refine ⟨by rw [r4 6 (by decide)]; exact a6, fun k hk => ?_, fun k h1 h2 => by simp [b0] at h2; omega⟩
    have : k = 0 := by simp [b0] at hk; exact hk
    subst this
    unfold elR
    rw [r3 74 0 _ (by decide), r3 74 0 _ (by decide), r3 74 0 _ (by decide), fa 74 0 _ (by decide), fa 74 0 _ (by decide), fa 74 0 _ (by decide)]
    exact h0
  obtain ⟨sc, q1, q2, q3⟩ := X12_group_out (M := mkM T) (m := (mkl T 4).length) hN 49 0 N sb b0 (by omega) (Nat.zero_le _) (by omega) hRB hRM Bi_0
  refine ⟨sc, ?_, q2, RM_fB hRM q3, ?_, fun k h1 h2 => ?_⟩
  · unfold f_X12_group
    rw [ha, show (0 : Int) = ((0 : Nat) : Int) from rfl, r1, Option.bind_some, q1, Option.bind_some]
  · exact fr_trans (fr_sub fa (fun r hr => by simp at hr ⊢; omega)) (fr_trans (fr_sub r3 (fun r hr => by simp at hr ⊢; omega)) (fr_sub q3.1 (fun r hr => by simp at hr ⊢; omega)))
  · rw [q3.2 k h1, r4 k h2, ka k h1 h2]
theorem mkM_tok {σ : mS} {T : Nat → Option tn} (hT : TR σ T) : ∀ t, t < (mkl T 4).length → tok (mkM T t) := fun t ht => by
  refine mkl_tok hT 4 (Nat.le_refl _) _ ?_
  unfold mkM
  rw [List.getD_eq_getElem?_getD, List.getElem?_eq_getElem ht]
  exact List.getElem_mem ht
theorem RG_of_RB {σ : mS} {M : Nat → tn} {m : Nat} (h : RB σ (bfs M m)) (hM : ∀ t, t < m → tok (M t)) : RG σ (bE (bfs M m)) (bfs M m).length := ⟨h.1, h.2.1, GP_bfs hM⟩
theorem X12_finds_fill {N : Nat} {E : Nat → tn} {n : Nat} : ∀ (j g fu : Nat) (σ : mS), g + j = n → j < fu → RG σ E n →
    ∃ σ', L_X12_finds_7 N fu (g : Int) σ = some σ' ∧ fr [78] σ σ' ∧ (∀ k, g ≤ k → k < n → σ' 78 0 k = -1) ∧ ∀ k, k < g → σ' 78 0 k = σ 78 0 k := by
  intro j
  induction j with
  | zero =>
    intro g fu σ h1 h2 H
    obtain ⟨fu, rfl⟩ : ∃ f', fu = f' + 1 := ⟨fu - 1, by omega⟩
    have hn := H.1
    rw [L_X12_finds_7_s, if_pos (by omega)]
    exact ⟨σ, rfl, fr_rfl, fun k _ _ => by omega, fun _ _ => rfl⟩
  | succ j ih =>
    intro g fu σ h1 h2 H
    obtain ⟨fu, rfl⟩ : ∃ f', fu = f' + 1 := ⟨fu - 1, by omega⟩
    have hn := H.1
    have h48 := RG_48 H
    rw [L_X12_finds_7_s, if_neg (by omega), if_pos (by omega), show (g : Int).toNat = g from by omega, show mw ((g : Int) + 1) = ((g + 1 : Nat) : Int) from mw_id (by omega) (by omega)]
    have ffr : fr [78] σ (mup σ 78 0 g (-1)) := fr_mup fr_rfl (by decide)
    obtain ⟨σ', r1, r2, r3, r4⟩ := ih (g + 1) fu _ (by omega) (by omega) (RG_fr H ffr (by decide) (by decide))
    refine ⟨σ', r1, fr_trans ffr r2, fun k q1 q2 => ?_, fun k hk => ?_⟩
    · by_cases e : k = g
      · subst e; rw [r4 k (by omega), mup_s]
      · exact r3 k (by omega) q2
    · rw [r4 k (by omega), mup_k (by omega)]
/-- the reference's classes, behind both loops -/
theorem X12_classes_ok {N : Nat} {E : Nat → tn} {n : Nat} {σ : mS} (hN : 100 ≤ N) (H : RG σ E n) :
    ∃ s, f_X12_finds N σ = Option.bind (f_X12_findSigns N s) (fun a => Option.bind (f_X12_findFew N a) fun b => some b) ∧ fr [71, 78] σ s ∧ (∀ k, k ≠ 10 → s 71 0 k = σ 71 0 k) ∧ s 71 0 10 = ((clo E n n).2 : Int) ∧ (∀ k, k < n → s 78 0 k = (clo E n n).1 k) ∧ RG s E n := by
  have h48 := RG_48 H
  have f0 : fr [71] σ (mup σ 71 0 10 0) := fr_mup fr_rfl (by decide)
  have H0 : RG (mup σ 71 0 10 0) E n := by
    refine ⟨by rw [mup_k (by decide)]; exact H.1, fun k hk => ?_, H.2.2⟩
    unfold elR
    rw [f0 74 0 _ (by decide), f0 74 0 _ (by decide), f0 74 0 _ (by decide)]
    exact H.2.1 k hk
  obtain ⟨s1, r1, r2, r3, -⟩ := X12_finds_fill (N := N) n 0 N _ (by omega) (by omega) H0
  have H1 := RG_fr H0 r2 (by decide) (by decide)
  obtain ⟨s2, q1, q2, q3, q4, q5⟩ := X12_finds_out hN n 0 N s1 (by omega) (by omega) H1 (by rw [r2 71 0 10 (by decide), mup_s]; rfl) (fun k hk => r3 k (Nat.zero_le _) hk)
  refine ⟨s2, ?_, ?_, fun k hk => ?_, q4, q5, ?_⟩
  · unfold f_X12_finds
    rw [show (0 : Int) = ((0 : Nat) : Int) from rfl] at *
    rw [r1, Option.bind_some, q1, Option.bind_some]
  · exact fr_trans (fr_sub f0 (fun r hr => by simp at hr ⊢; omega)) (fr_trans (fr_sub r2 (fun r hr => by simp at hr ⊢; omega)) q2)
  · rw [q3 k hk, r2 71 0 k (by decide), mup_k hk]
  · refine ⟨by rw [q3 6 (by decide)]; exact H1.1, fun k hk => ?_, H.2.2⟩
    unfold elR
    rw [q2 74 0 _ (by decide), q2 74 0 _ (by decide), q2 74 0 _ (by decide)]
    exact H1.2.1 k hk
