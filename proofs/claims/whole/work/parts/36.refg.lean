/-! the reference over a group: product, back, order, classes -/
def RG (σ : mS) (E : Nat → tn) (n : Nat) : Prop := σ 71 0 6 = (n : Int) ∧ (∀ k, k < n → elR σ k = E k) ∧ GP E n
theorem RG_48 {σ : mS} {E : Nat → tn} {n : Nat} (h : RG σ E n) : n ≤ 48 := few48 h.2.2.2.2.1 h.2.2.2.2.2.1
theorem X12_product_eq {N : Nat} {σ : mS} {E : Nat → tn} {n g h : Nat} (hN : 100 ≤ N) (H : RG σ E n) (hg : g < n) (hh : h < n) : f_X12_product N (g : Int) (h : Int) σ = some ((gm E n g h : Int), σ) := by
  have h48 := RG_48 H
  have hgt : tok (E g) := H.2.2.2.2.1 g hg
  have hht : tok (E h) := H.2.2.2.2.1 h hh
  have hel := H.2.1 g hg
  have hel2 := H.2.1 h hh
  have e1 : mw (3 * (g : Int)) = 3 * (g : Int) := mw_id (by omega) (by omega)
  have e2 : mw (3 * (g : Int) + 1) = 3 * (g : Int) + 1 := mw_id (by omega) (by omega)
  have e3 : mw (3 * (g : Int) + 2) = 3 * (g : Int) + 2 := mw_id (by omega) (by omega)
  have d1 : mw (3 * (h : Int)) = 3 * (h : Int) := mw_id (by omega) (by omega)
  have d2 : mw (3 * (h : Int) + 1) = 3 * (h : Int) + 1 := mw_id (by omega) (by omega)
  have d3 : mw (3 * (h : Int) + 2) = 3 * (h : Int) + 2 := mw_id (by omega) (by omega)
  have t1 : (3 * (g : Int)).toNat = 3 * g := by omega
  have t2 : (3 * (g : Int) + 1).toNat = 3 * g + 1 := by omega
  have t3 : (3 * (g : Int) + 2).toNat = 3 * g + 2 := by omega
  have u1 : (3 * (h : Int)).toNat = 3 * h := by omega
  have u2 : (3 * (h : Int) + 1).toNat = 3 * h + 1 := by omega
  have u3 : (3 * (h : Int) + 2).toNat = 3 * h + 2 := by omega
  have g1 : σ 74 0 (3 * g) = (E g).1 := congrArg Prod.fst hel
  have g2 : σ 74 0 (3 * g + 1) = (E g).2.1 := congrArg (fun x : tn => x.2.1) hel
  have g3 : σ 74 0 (3 * g + 2) = (E g).2.2 := congrArg (fun x : tn => x.2.2) hel
  have m1 : σ 74 0 (3 * h) = (E h).1 := congrArg Prod.fst hel2
  have m2 : σ 74 0 (3 * h + 1) = (E h).2.1 := congrArg (fun x : tn => x.2.1) hel2
  have m3 : σ 74 0 (3 * h + 2) = (E h).2.2 := congrArg (fun x : tn => x.2.2) hel2
  have c1 : ∀ (x : Int), cok x → f_X12_then N x (σ 74 0 (3 * h)) (σ 74 0 (3 * h + 1)) (σ 74 0 (3 * h + 2)) σ = some (cth x (E h), σ) := fun x hx => by
    rw [m1, m2, m3]; exact X12_then_eq hx hht
  have w0 : (0 ≤ 3 * (h : Int) ∧ 3 * (h : Int) < 144) ∧ (0 ≤ 3 * (h : Int) + 1 ∧ 3 * (h : Int) + 1 < 144) ∧ (0 ≤ 3 * (h : Int) + 2 ∧ 3 * (h : Int) + 2 < 144) := by omega
  have w1 : 0 ≤ 3 * (g : Int) ∧ 3 * (g : Int) < 144 := by omega
  have w2 : 0 ≤ 3 * (g : Int) + 1 ∧ 3 * (g : Int) + 1 < 144 := by omega
  have w3 : 0 ≤ 3 * (g : Int) + 2 ∧ 3 * (g : Int) + 2 < 144 := by omega
  unfold f_X12_product
  simp only [e1, e2, e3, d1, d2, d3, t1, t2, t3, u1, u2, u3]
  rw [if_pos ⟨w1, w0⟩, c1 _ (g1 ▸ hgt.1), Option.bind_some]
  dsimp only
  rw [if_pos ⟨w2, w0⟩, c1 _ (g2 ▸ hgt.2.1), Option.bind_some]
  dsimp only
  rw [if_pos ⟨w3, w0⟩, c1 _ (g3 ▸ hgt.2.2.1), Option.bind_some]
  dsimp only
  rw [g1, g2, g3, show f_X12_find N (cth (E g).1 (E h)) (cth (E g).2.1 (E h)) (cth (E g).2.2 (E h)) σ = some (fnd (elR σ) (tco (E g) (E h)) n 0, σ) from X12_find_eq (t := tco (E g) (E h)) hN H.1 h48, Option.bind_some]
  dsimp only
  obtain ⟨q1, q2⟩ := gm_ok H.2.2 hg hh
  rw [fnd_cg n 0 (E' := E) (fun i _ h2 => H.2.1 i (by omega)), ← q2, gix_fnd H.2.2 q1]
theorem X12_back_eq {N : Nat} {σ : mS} {E : Nat → tn} {n g : Nat} (hN : 100 ≤ N) (H : RG σ E n) (hg : g < n) : f_X12_back N (g : Int) σ = some ((gv E n g : Int), σ) := by
  have h48 := RG_48 H
  obtain ⟨hv, -⟩ := gv_ok H.2.2 hg
  have lp : ∀ (j k f : Nat), k + j = gv E n g → j < f → L_X12_back_2 N f (g : Int) (k : Int) σ = some ((gv E n g : Int), σ) := by
    intro j
    induction j with
    | zero =>
      intro k f hk hf
      obtain ⟨f, rfl⟩ : ∃ f', f = f' + 1 := ⟨f - 1, by omega⟩
      have : k = gv E n g := by omega
      subst this
      rw [L_X12_back_2_s, X12_product_eq hN H hg hv, Option.bind_some]
      dsimp only
      rw [gm_vr H.2.2 hg]
      rfl
    | succ j ih =>
      intro k f hk hf
      obtain ⟨f, rfl⟩ : ∃ f', f = f' + 1 := ⟨f - 1, by omega⟩
      rw [L_X12_back_2_s, X12_product_eq hN H hg (show k < n by omega), Option.bind_some]
      dsimp only
      have hne : ¬ ((gm E n g k : Nat) : Int) = 0 := fun q => by
        have q' : gm E n g k = gm E n g (gv E n g) := by rw [gm_vr H.2.2 hg]; omega
        have := gm_cl H.2.2 hg (by omega) hv q'
        omega
      rw [if_neg hne, show mw ((k : Int) + 1) = ((k + 1 : Nat) : Int) from mw_id (by omega) (by omega)]
      exact ih (k + 1) f (by omega) (by omega)
  unfold f_X12_back
  rw [show (0 : Int) = ((0 : Nat) : Int) from rfl, lp (gv E n g) 0 N (by omega) (by omega)]
  rfl
