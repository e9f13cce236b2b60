/-! part: degree, number, how many of each FEW -/
def pgt (pts : List (Nat × Int × List Nat)) (k : Nat) : Nat × Int × List Nat := pts.getD k (0, 0, [])
def ptA (pts : List (Nat × Int × List Nat)) (fw : Nat) (a1 a2 : Int) : Int :=
  if a1 < 0 ∨ (pts.length : Int) ≤ a1 ∨ a2 < 0 ∨ (fw : Int) + 2 ≤ a2 then -1
  else if a2 = 0 then ((pgt pts a1.toNat).1 : Int)
  else if a2 = 1 then (pgt pts a1.toNat).2.1
  else ((pgt pts a1.toNat).2.2.count (a2 - 2).toNat : Int)
def CPt (σ : mS) (pts : List (Nat × Int × List Nat)) (fw : Nat) : Prop := σ 61 0 0 = (pts.length : Int) ∧ σ 61 0 1 = (fw : Int) ∧ pts.length ≤ 84 ∧ fw ≤ 6 ∧ ∀ k, k < pts.length → σ 62 0 k = ((pgt pts k).1 : Int) ∧ σ 63 0 k = (pgt pts k).2.1 ∧ ∀ j, j < 6 → σ 65 k j = ((pgt pts k).2.2.count j : Int)
def RPt (σ : mS) (pts : List (Nat × Int × List Nat)) (fw : Nat) : Prop := σ 71 0 32 = (pts.length : Int) ∧ σ 71 0 36 = (fw : Int) ∧ pts.length ≤ 84 ∧ fw ≤ 6 ∧ ∀ k, k < pts.length → σ 93 0 k = ((pgt pts k).1 : Int) ∧ σ 94 0 k = (pgt pts k).2.1 ∧ ∀ j, j < 40 → σ 95 0 (40 * k + j) = ((pgt pts k).2.2.count j : Int)
theorem X5_tell_eq {N fw : Nat} {a1 a2 : Int} {pts : List (Nat × Int × List Nat)} {σ : mS} (h : CPt σ pts fw) : f_X5_tell N a1 a2 σ = some (ptA pts fw a1 a2, σ) := by
  obtain ⟨h1, h2, h3, h4, h5⟩ := h
  unfold f_X5_tell ptA
  rw [h1, h2, show mw ((2 : Int) + (fw : Int)) = (fw : Int) + 2 from by rw [mw_id (by omega) (by omega)]; omega]
  by_cases q1 : a1 < 0
  · rw [if_pos q1, if_pos (Or.inl q1)]
  rw [if_neg q1]
  by_cases q2 : (pts.length : Int) ≤ a1
  · rw [if_pos q2, if_pos (Or.inr (Or.inl q2))]
  rw [if_neg q2]
  by_cases q3 : a2 < 0
  · rw [if_pos q3, if_pos (Or.inr (Or.inr (Or.inl q3)))]
  rw [if_neg q3]
  by_cases q4 : (fw : Int) + 2 ≤ a2
  · rw [if_neg (by omega), if_pos (Or.inr (Or.inr (Or.inr q4)))]
  rw [if_pos (by omega), if_neg (c := a1 < 0 ∨ (pts.length : Int) ≤ a1 ∨ a2 < 0 ∨ (fw : Int) + 2 ≤ a2) (by omega)]
  obtain ⟨r1, r2, r3⟩ := h5 a1.toNat (by omega)
  by_cases q5 : a2 = 0
  · rw [if_pos q5, if_pos q5, if_pos (by omega), r1]
  rw [if_neg q5, if_neg q5]
  by_cases q6 : a2 = 1
  · rw [if_pos q6, if_pos q6, if_pos (by omega), r2]
  rw [if_neg q6, if_neg q6, show mw (a2 - 2) = a2 - 2 from mw_id (by omega) (by omega), if_pos (by omega), r3 _ (by omega)]
theorem X12_part_eq {N fw : Nat} {a1 a2 : Int} {pts : List (Nat × Int × List Nat)} {σ : mS} (h : RPt σ pts fw) : f_X12_part N a1 a2 σ = some (ptA pts fw a1 a2, σ) := by
  obtain ⟨h1, h2, h3, h4, h5⟩ := h
  unfold f_X12_part ptA
  rw [h1, show mw ((pts.length : Int) - 1) = (pts.length : Int) - 1 from mw_id (by omega) (by omega)]
  by_cases q1 : 0 ≤ a1 ∧ a1 ≤ (pts.length : Int) - 1
  · rw [X12_isIn_eq.1 q1, Option.bind_some]
    try dsimp only
    rw [if_neg (by decide)]
    obtain ⟨r1, r2, r3⟩ := h5 a1.toNat (by omega)
    by_cases q5 : a2 = 0
    · rw [if_pos q5, if_pos (by omega), if_neg (c := a1 < 0 ∨ (pts.length : Int) ≤ a1 ∨ a2 < 0 ∨ (fw : Int) + 2 ≤ a2) (by omega), if_pos q5, r1]
    rw [if_neg q5]
    by_cases q6 : a2 = 1
    · rw [if_pos q6, if_pos (by omega), if_neg (c := a1 < 0 ∨ (pts.length : Int) ≤ a1 ∨ a2 < 0 ∨ (fw : Int) + 2 ≤ a2) (by omega), if_neg q5, if_pos q6, r2]
    rw [if_neg q6, h2, show mw ((1 : Int) + (fw : Int)) = (fw : Int) + 1 from by rw [mw_id (by omega) (by omega)]; omega]
    by_cases q7 : 2 ≤ a2 ∧ a2 ≤ (fw : Int) + 1
    · have x1 : mw (mw (mw ((40 : Int) * a1) + a2) - 2) = ((40 * a1.toNat + (a2 - 2).toNat : Nat) : Int) := by
        rw [show mw ((40 : Int) * a1) = 40 * a1 from mw_id (by omega) (by omega), show mw (40 * a1 + a2) = 40 * a1 + a2 from mw_id (by omega) (by omega), mw_id (by omega) (by omega)]
        omega
      rw [X12_isIn_eq.1 q7, Option.bind_some]
      try dsimp only
      rw [if_neg (by decide), x1, if_pos (by omega), tN, r3 _ (by omega), if_neg (c := a1 < 0 ∨ (pts.length : Int) ≤ a1 ∨ a2 < 0 ∨ (fw : Int) + 2 ≤ a2) (by omega), if_neg q5, if_neg q6]
    · rw [X12_isIn_eq.2 q7, Option.bind_some]
      try dsimp only
      rw [if_pos rfl, if_pos (c := a1 < 0 ∨ (pts.length : Int) ≤ a1 ∨ a2 < 0 ∨ (fw : Int) + 2 ≤ a2) (by omega)]
  · rw [X12_isIn_eq.2 q1, Option.bind_some]
    try dsimp only
    rw [if_pos rfl, if_pos (c := a1 < 0 ∨ (pts.length : Int) ≤ a1 ∨ a2 < 0 ∨ (fw : Int) + 2 ≤ a2) (by omega)]
