/-! the reference's small functions -/
def elR (σ : mS) (k : Nat) : tn := (σ 74 0 (3 * k), σ 74 0 (3 * k + 1), σ 74 0 (3 * k + 2))
/-- the first of j places from k on that bears t; -1 if none does -/
def fnd (E : Nat → tn) (t : tn) : Nat → Nat → Int
  | 0, _ => -1
  | j + 1, k => if E k = t then (k : Int) else fnd E t j (k + 1)
theorem fnd_s (E : Nat → tn) (t : tn) (j k : Nat) : fnd E t (j + 1) k = if E k = t then (k : Int) else fnd E t j (k + 1) := rfl
theorem fnd_none {E : Nat → tn} {t : tn} : ∀ (j k : Nat), (∀ i, k ≤ i → i < k + j → E i ≠ t) → fnd E t j k = -1
  | 0, _, _ => rfl
  | j + 1, k, h => by
    unfold fnd
    rw [if_neg (h k (Nat.le_refl _) (by omega))]
    exact fnd_none j (k + 1) (fun i h1 h2 => h i (by omega) (by omega))
theorem fnd_some {E : Nat → tn} {t : tn} : ∀ (j k i : Nat), k ≤ i → i < k + j → E i = t → (∀ i', k ≤ i' → i' < i → E i' ≠ t) → fnd E t j k = (i : Int)
  | 0, k, i, h1, h2, _, _ => by omega
  | j + 1, k, i, h1, h2, h3, h4 => by
    unfold fnd
    by_cases e : k = i
    · subst e; rw [if_pos h3]
    · rw [if_neg (h4 k (Nat.le_refl _) (by omega))]
      exact fnd_some j (k + 1) i (by omega) (by omega) h3 (fun i' q1 q2 => h4 i' (by omega) q2)
theorem fnd_cases (E : Nat → tn) (t : tn) : ∀ (j k : Nat), (fnd E t j k = -1 ∧ ∀ i, k ≤ i → i < k + j → E i ≠ t) ∨ ∃ i : Nat, k ≤ i ∧ i < k + j ∧ fnd E t j k = (i : Int) ∧ E i = t
  | 0, k => Or.inl ⟨rfl, fun i h1 h2 => by omega⟩
  | j + 1, k => by
    unfold fnd
    by_cases e : E k = t
    · rw [if_pos e]; exact Or.inr ⟨k, by omega, by omega, rfl, e⟩
    · rw [if_neg e]
      rcases fnd_cases E t j (k + 1) with ⟨h1, h2⟩ | ⟨i, h1, h2, h3, h4⟩
      · refine Or.inl ⟨h1, fun i q1 q2 => ?_⟩
        by_cases e2 : i = k
        · subst e2; exact e
        · exact h2 i (by omega) (by omega)
      · exact Or.inr ⟨i, by omega, by omega, h3, h4⟩
theorem X12_find_lp {N : Nat} {t : tn} {σ : mS} {n : Nat} (hn : σ 71 0 6 = (n : Int)) (h48 : n ≤ 48) : ∀ (j f k : Nat), k + j = n → j < f →
    L_X12_find_3 N f t.1 t.2.1 t.2.2 (k : Int) σ = some (if fnd (elR σ) t j k = -1 then .inr σ else .inl (fnd (elR σ) t j k, σ)) := by
  intro j
  induction j with
  | zero =>
    intro f k hk hf
    obtain ⟨f, rfl⟩ : ∃ f', f = f' + 1 := ⟨f - 1, by omega⟩
    rw [L_X12_find_3_s, if_pos (by omega)]
    rfl
  | succ j ih =>
    intro f k hk hf
    obtain ⟨f, rfl⟩ : ∃ f', f = f' + 1 := ⟨f - 1, by omega⟩
    have e1 : mw (3 * (k : Int)) = 3 * (k : Int) := mw_id (by omega) (by omega)
    have e2 : mw (3 * (k : Int) + 1) = 3 * (k : Int) + 1 := mw_id (by omega) (by omega)
    have e3 : mw (3 * (k : Int) + 2) = 3 * (k : Int) + 2 := mw_id (by omega) (by omega)
    have e4 : mw ((k : Int) + 1) = ((k + 1 : Nat) : Int) := mw_id (by omega) (by omega)
    have t1 : (3 * (k : Int)).toNat = 3 * k := by omega
    have t2 : (3 * (k : Int) + 1).toNat = 3 * k + 1 := by omega
    have t3 : (3 * (k : Int) + 2).toNat = 3 * k + 2 := by omega
    rw [L_X12_find_3_s, if_neg (by omega)]
    simp only [e1, e2, e3, e4, t1, t2, t3]
    have b1 : 0 ≤ 3 * (k : Int) ∧ 3 * (k : Int) < 144 := by omega
    have b2 : 0 ≤ 3 * (k : Int) + 1 ∧ 3 * (k : Int) + 1 < 144 := by omega
    have b3 : 0 ≤ 3 * (k : Int) + 2 ∧ 3 * (k : Int) + 2 < 144 := by omega
    rw [if_pos b1, if_pos b2, if_pos b3, ih f (k + 1) (by omega) (by omega), fnd_s]
    have he : (elR σ k = t) ↔ (σ 74 0 (3 * k) = t.1 ∧ σ 74 0 (3 * k + 1) = t.2.1 ∧ σ 74 0 (3 * k + 2) = t.2.2) := by
      unfold elR
      obtain ⟨a, b, c⟩ := t
      simp
    by_cases h1 : σ 74 0 (3 * k) = t.1
    · by_cases h2 : σ 74 0 (3 * k + 1) = t.2.1
      · by_cases h3 : σ 74 0 (3 * k + 2) = t.2.2
        · rw [if_pos h1, if_pos h2, if_pos h3, if_pos (he.mpr ⟨h1, h2, h3⟩), if_neg (by omega)]
        · rw [if_pos h1, if_pos h2, if_neg h3, if_neg (fun q => h3 (he.mp q).2.2)]
      · rw [if_pos h1, if_neg h2, if_neg (fun q => h2 (he.mp q).2.1)]
    · rw [if_neg h1, if_neg (fun q => h1 (he.mp q).1)]
theorem X12_find_eq {N : Nat} {t : tn} {σ : mS} {n : Nat} (hN : 100 ≤ N) (hn : σ 71 0 6 = (n : Int)) (h48 : n ≤ 48) : f_X12_find N t.1 t.2.1 t.2.2 σ = some (fnd (elR σ) t n 0, σ) := by
  unfold f_X12_find
  rw [show (0 : Int) = ((0 : Nat) : Int) from rfl, X12_find_lp hn h48 n N 0 (by omega) (by omega)]
  by_cases h : fnd (elR σ) t n 0 = -1
  · rw [if_pos h, h]; rfl
  · rw [if_neg h]; rfl
theorem X12_size_eq {N : Nat} {a : Int} {σ : mS} (h : cok a) : f_X12_size N a σ = some ((a.natAbs : Int), σ) := by
  unfold f_X12_size
  rcases h with rfl | rfl | rfl | rfl | rfl | rfl <;> rfl
theorem mw_neg_ok {a : Int} (h : cok a) : mw (-a) = -a := by
  rcases h with rfl | rfl | rfl | rfl | rfl | rfl <;> decide
theorem X12_sz1 (N : Nat) (σ : mS) : f_X12_size N 1 σ = some (1, σ) := rfl
theorem X12_sz2 (N : Nat) (σ : mS) : f_X12_size N 2 σ = some (2, σ) := rfl
theorem X12_sz3 (N : Nat) (σ : mS) : f_X12_size N 3 σ = some (3, σ) := rfl
theorem X12_sz4 (N : Nat) (σ : mS) : f_X12_size N (-1) σ = some (1, σ) := rfl
theorem X12_sz5 (N : Nat) (σ : mS) : f_X12_size N (-2) σ = some (2, σ) := rfl
theorem X12_sz6 (N : Nat) (σ : mS) : f_X12_size N (-3) σ = some (3, σ) := rfl
theorem X12_then_eq {N : Nat} {c : Int} {b : tn} {σ : mS} (h : cok c) (hb : tok b) : f_X12_then N c b.1 b.2.1 b.2.2 σ = some (cth c b, σ) := by
  obtain ⟨h1, h2, h3, -⟩ := hb
  unfold f_X12_then
  rcases h with rfl | rfl | rfl | rfl | rfl | rfl
  · simp [X12_sz1, cth]
  · simp [X12_sz2, cth]
  · simp [X12_sz3, cth]
  · simp [X12_sz4, cth, mw_neg_ok h1]
  · simp [X12_sz5, cth, mw_neg_ok h2]
  · simp [X12_sz6, cth, mw_neg_ok h3]
