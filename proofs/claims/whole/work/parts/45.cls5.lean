/-! the class's backs and orders -/
/-- the class bears the group's table -/
def CT (σ : mS) (E : Nat → tn) (n : Nat) : Prop := σ 5 0 0 = (n : Int) ∧ GP E n ∧ ∀ g, g < n → ∀ h, h < n → σ 16 g h = (gm E n g h : Int)
theorem CT_48 {σ : mS} {E : Nat → tn} {n : Nat} (h : CT σ E n) : n ≤ 48 := few48 h.2.1.2.2.1 h.2.1.2.2.2.1
theorem CT_fr {σ σ' : mS} {E : Nat → tn} {n : Nat} {R : List Nat} (h : CT σ E n) (hf : fr R σ σ') (h5 : 5 ∉ R) (h16 : 16 ∉ R) : CT σ' E n := ⟨by rw [hf 5 0 0 h5]; exact h.1, h.2.1, fun g hg k hk => by rw [hf 16 g k h16]; exact h.2.2 g hg k hk⟩
theorem X1_back_lp {N : Nat} {σ : mS} {E : Nat → tn} {n g : Nat} (H : CT σ E n) (hg : g < n) : ∀ (j k a b f : Nat), a < n → b < n → gm E n b g = a → (∃ i, i < j ∧ git E n g i a = 0) → j < f → k + j < 48 →
    L_X1_fillBacksAndOrders_17 N f (g : Int) (b : Int) (a : Int) (k : Int) σ = some ((gv E n g : Int), (gors E n g j k a : Int), σ) := by
  have h48 := CT_48 H
  intro j
  induction j with
  | zero => intro k a b f _ _ _ h; obtain ⟨i, hi, -⟩ := h; exact absurd hi (Nat.not_lt_zero _)
  | succ j ih =>
    intro k a b f ha hb hab h hf hk
    obtain ⟨f, rfl⟩ : ∃ f', f = f' + 1 := ⟨f - 1, by omega⟩
    rw [L_X1_fillBacksAndOrders_17_s, gors_s]
    by_cases e : a = 0
    · subst e
      have hv := gv_ok H.2.1 hg
      have : b = gv E n g := gm_cr H.2.1 hg hb hv.1 (hab.trans (gm_vl H.2.1 hg).symm)
      rw [if_pos (show ((0 : Nat) : Int) = 0 from rfl), if_pos rfl, this]
    · rw [if_neg (by omega), if_neg (by omega), if_pos (by omega), if_neg e, show (a : Int).toNat = a from by omega, show (g : Int).toNat = g from by omega, H.2.2 a ha g hg, show mw ((k : Int) + 1) = ((k + 1 : Nat) : Int) from mw_id (by omega) (by omega)]
      refine ih (k + 1) _ a f (gm_ok H.2.1 ha hg).1 ha rfl ?_ (by omega) (by omega)
      obtain ⟨i, hi, ei⟩ := h
      match i, hi, ei with
      | 0, _, ei => exact absurd ei e
      | i + 1, hi, ei => exact ⟨i, by omega, ei⟩
theorem X1_backs_lp {N : Nat} {E : Nat → tn} {n : Nat} (hN : 100 ≤ N) : ∀ (j g f : Nat) (σ : mS), g + j = n → j < f → CT σ E n → (∀ g', g' < g → σ 17 0 g' = (gv E n g' : Int) ∧ σ 18 0 g' = (gor E n g' : Int)) →
    ∃ σ', L_X1_fillBacksAndOrders_2 N f (g : Int) σ = some σ' ∧ fr [17, 18] σ σ' ∧ ∀ g', g' < n → σ' 17 0 g' = (gv E n g' : Int) ∧ σ' 18 0 g' = (gor E n g' : Int) := by
  intro j
  induction j with
  | zero =>
    intro g f σ h1 h2 H hT
    obtain ⟨f, rfl⟩ : ∃ f', f = f' + 1 := ⟨f - 1, by omega⟩
    have hn := H.1
    rw [L_X1_fillBacksAndOrders_2_s, if_pos (by omega)]
    exact ⟨σ, rfl, fr_rfl, fun g' q => hT g' (by omega)⟩
  | succ j ih =>
    intro g f σ h1 h2 H hT
    obtain ⟨f, rfl⟩ : ∃ f', f = f' + 1 := ⟨f - 1, by omega⟩
    have hn := H.1
    have h48 := CT_48 H
    have hg : g < n := by omega
    rw [L_X1_fillBacksAndOrders_2_s, if_neg (by omega), show (0 : Int) = ((0 : Nat) : Int) from rfl, show (1 : Int) = ((1 : Nat) : Int) from rfl, X1_back_lp H hg 12 1 g 0 N hg H.2.1.1 (gm_l H.2.1 hg) ⟨11, by omega, git_11 H.2.1 hg⟩ (by omega) (by omega), Option.bind_some]
    dsimp only
    rw [if_pos (by omega), show (g : Int).toNat = g from by omega, show mw ((g : Int) + ((1 : Nat) : Int)) = ((g + 1 : Nat) : Int) from mw_id (by omega) (by omega)]
    have f1 : fr [17, 18] σ (mup (mup σ 17 0 g (gv E n g : Int)) 18 0 g (gors E n g 12 1 g : Int)) := fr_mup (fr_mup fr_rfl (by decide)) (by decide)
    obtain ⟨s2, q1, q2, q3⟩ := ih (g + 1) f _ (by omega) (by omega) (CT_fr H f1 (by decide) (by decide)) (fun g' hg' => by
      by_cases e : g' = g
      · subst e
        rw [mup_r (by decide), mup_s, mup_s]
        exact ⟨rfl, rfl⟩
      · rw [mup_r (by decide), mup_k e, mup_k e, mup_r (by decide)]
        exact hT g' (by omega))
    exact ⟨s2, q1, fr_trans f1 q2, q3⟩
theorem X1_backs_eq {N : Nat} {E : Nat → tn} {n : Nat} {σ : mS} (hN : 100 ≤ N) (H : CT σ E n) : ∃ σ', f_X1_fillBacksAndOrders N σ = some σ' ∧ fr [17, 18] σ σ' ∧ ∀ g', g' < n → σ' 17 0 g' = (gv E n g' : Int) ∧ σ' 18 0 g' = (gor E n g' : Int) := by
  have h48 := CT_48 H
  obtain ⟨s, q1, q2, q3⟩ := X1_backs_lp hN n 0 N σ (by omega) (by omega) H (fun g' h => absurd h (Nat.not_lt_zero _))
  refine ⟨s, ?_, q2, q3⟩
  unfold f_X1_fillBacksAndOrders
  rw [show (0 : Int) = ((0 : Nat) : Int) from rfl, q1]
  rfl
