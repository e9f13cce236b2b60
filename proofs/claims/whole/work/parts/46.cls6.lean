/-! classes are alike on conjugates; so they do not overlap -/
theorem cjb_cj {E : Nat → tn} {n g k f : Nat} (H : GP E n) (hg : g < n) (hk : k < n) (hf : f < n) : cjb E n g (gcj E n f k) = cjb E n g k := by
  have a : cjb E n g k = true → cjb E n g (gcj E n f k) = true := fun h => by
    obtain ⟨f', h1, h2⟩ := cjb_ok.mp h
    exact cjb_ok.mpr ⟨gm E n f f', (gm_ok H hf h1).1, by rw [← gcj_m H hf h1 hg, h2]⟩
  have b : cjb E n g (gcj E n f k) = true → cjb E n g k = true := fun h => by
    obtain ⟨f', h1, h2⟩ := cjb_ok.mp h
    have hv := (gv_ok H hf).1
    exact cjb_ok.mpr ⟨gm E n (gv E n f) f', (gm_ok H hv h1).1, by rw [← gcj_m H hv h1 hg, h2, gcj_b H hf hk]⟩
  cases h1 : cjb E n g k with
  | true => exact a h1
  | false =>
    cases h2 : cjb E n g (gcj E n f k) with
    | true => rw [b h2] at h1; cases h1
    | false => rfl
theorem clo_cj {E : Nat → tn} {n : Nat} (H : GP E n) : ∀ g, g ≤ n → ∀ k, k < n → ∀ f, f < n → (clo E n g).1 (gcj E n f k) = (clo E n g).1 k
  | 0, _, _, _, _, _ => rfl
  | g + 1, hg, k, hk, f, hf => by
    rw [clo_s]
    split
    · dsimp only
      rw [cjb_cj H (by omega) hk hf, clo_cj H g (by omega) k hk f hf]
    · exact clo_cj H g (by omega) k hk f hf
/-- a class that is begun is of none that have a number yet -/
theorem clo_new {E : Nat → tn} {n g k : Nat} (H : GP E n) (hg : g < n) (hn : (clo E n g).1 g = -1) (hb : cjb E n g k = true) : (clo E n g).1 k = -1 := by
  obtain ⟨f, h1, h2⟩ := cjb_ok.mp hb
  rw [← h2, clo_cj H g (by omega) g hg f h1]
  exact hn
theorem clo_rg {E : Nat → tn} {n : Nat} : ∀ g k, (clo E n g).1 k = -1 ∨ (0 ≤ (clo E n g).1 k ∧ (clo E n g).1 k < ((clo E n g).2 : Int))
  | 0, _ => Or.inl rfl
  | g + 1, k => by
    rw [clo_s]
    split
    · dsimp only
      split
      · right; omega
      · rcases clo_rg g k with h | h
        · exact Or.inl h
        · right; omega
    · exact clo_rg g k
