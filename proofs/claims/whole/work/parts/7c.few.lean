/-! about(7), few -/
def dpr (L : List (Nat × Nat)) : Nat → Int
  | 0 => 1
  | k + 1 => mw (dpr L k * (fwd L k : Int))
theorem X0_dtg_eq {N : Nat} {L : List (Nat × Nat)} {σ : mS} (hN : 1000 ≤ N) (hF : FW σ L) (h6 : L.length ≤ 6) : f_X0_degreesTogether N σ = some (dpr L L.length, σ) := by
  obtain ⟨o, e, h⟩ := lp2_0 (A := Int) (S := mS) (L := fun g k a s => L_X0_degreesTogether_4 N g a k s) (I := fun k a s => s = σ ∧ a = dpr L k) (P := fun o => o = (dpr L L.length, σ)) L.length (fun fu k a s hk hI => by
      obtain ⟨h1, h2⟩ := hI
      subst h1 h2
      left
      refine ⟨dpr L (k + 1), s, ?_, rfl, rfl⟩
      try dsimp only
      rw [L_X0_degreesTogether_4_s, hF.1, if_neg (by omega), if_pos (by omega), tN, (hF.2 k hk).1, mw_s (by omega)]
      rfl) (fun fu a s hI => by
      obtain ⟨h1, h2⟩ := hI
      subst h1 h2
      refine ⟨_, ?_, rfl⟩
      try dsimp only
      rw [L_X0_degreesTogether_4_s, hF.1, if_pos (by omega)]) (f := N) (a := 1) (s := σ) (by omega) ⟨rfl, rfl⟩
  unfold f_X0_degreesTogether
  try dsimp only at e
  rw [e, h]
  rfl
theorem X12_dtg_eq {N : Nat} {L : List (Nat × Nat)} {σ : mS} (hN : 1000 ≤ N) (hF : RFd σ L) (h6 : L.length ≤ 6) : L_X12_about_226 N N 1 0 σ = some (dpr L L.length, σ) := by
  obtain ⟨o, e, h⟩ := lp2_0 (A := Int) (S := mS) (L := fun g k a s => L_X12_about_226 N g a k s) (I := fun k a s => s = σ ∧ a = dpr L k) (P := fun o => o = (dpr L L.length, σ)) L.length (fun fu k a s hk hI => by
      obtain ⟨h1, h2⟩ := hI
      subst h1 h2
      left
      refine ⟨dpr L (k + 1), s, ?_, rfl, rfl⟩
      try dsimp only
      rw [L_X12_about_226_s, hF.1, if_neg (by omega), if_pos (by omega), tN, hF.2 k hk, mw_s (by omega)]
      rfl) (fun fu a s hI => by
      obtain ⟨h1, h2⟩ := hI
      subst h1 h2
      refine ⟨_, ?_, rfl⟩
      try dsimp only
      rw [L_X12_about_226_s, hF.1, if_pos (by omega)]) (f := N) (a := 1) (s := σ) (by omega) ⟨rfl, rfl⟩
  try dsimp only at e
  rw [e, h]
/-- the reference copies a FEW into a row -/
theorem X12_few26_eq {N p i : Nat} {σ : mS} (hN : 1000 ≤ N) (hp : p < 10) (hi : i < 40) : ∃ σ', L_X12_few_26 N N (p : Int) (i : Int) 0 σ = some σ' ∧ fr [81] σ σ' ∧ (∀ a, a < 729 → σ' 81 0 (729 * p + a) = σ 84 0 (729 * i + a)) ∧ ∀ c, ¬ (729 * p ≤ c ∧ c < 729 * p + 729) → σ' 81 0 c = σ 81 0 c := by
  obtain ⟨s, e, h1, h2, h3⟩ := lp_0 (L := fun g k s => L_X12_few_26 N g (p : Int) (i : Int) k s) (I := fun k s => fr [81] σ s ∧ (∀ a, a < k → s 81 0 (729 * p + a) = σ 84 0 (729 * i + a)) ∧ ∀ c, ¬ (729 * p ≤ c ∧ c < 729 * p + 729) → s 81 0 c = σ 81 0 c) (P := fun s => fr [81] σ s ∧ (∀ a, a < 729 → s 81 0 (729 * p + a) = σ 84 0 (729 * i + a)) ∧ ∀ c, ¬ (729 * p ≤ c ∧ c < 729 * p + 729) → s 81 0 c = σ 81 0 c) 729 (fun fu k s hk hI => by
      obtain ⟨h1, h2, h3⟩ := hI
      left
      have x1 : mw (mw ((729 : Int) * (i : Int)) + (k : Int)) = ((729 * i + k : Nat) : Int) := by rw [show mw ((729 : Int) * (i : Int)) = 729 * (i : Int) from mw_id (by omega) (by omega), mw_id (by omega) (by omega)]; omega
      have x2 : mw (mw ((729 : Int) * (p : Int)) + (k : Int)) = ((729 * p + k : Nat) : Int) := by rw [show mw ((729 : Int) * (p : Int)) = 729 * (p : Int) from mw_id (by omega) (by omega), mw_id (by omega) (by omega)]; omega
      try dsimp only
      rw [L_X12_few_26_s, if_neg (by omega), x1, x2, if_pos (by omega), tN, tN, h1 84 _ _ (by decide), mw_s (by omega)]
      refine ⟨_, rfl, fr_mup h1 (by decide), fun a ha => ?_, fun c hc => by rw [mup_k (by omega)]; exact h3 c hc⟩
      by_cases ea : a = k
      · subst ea; rw [mup_s]
      · rw [mup_k (by omega)]; exact h2 a (by omega)) (fun fu s hI => by
      refine ⟨s, ?_, hI⟩
      try dsimp only
      rw [L_X12_few_26_s, if_pos (by omega)]) (f := N) (s := σ) (by omega) ⟨fr_rfl, fun a h => absurd h (Nat.not_lt_zero _), fun _ _ => rfl⟩
  exact ⟨s, e, h1, h2, h3⟩
