/-! the list that is made is closed; the reference's outer loop -/
theorem bSt_has {M : Nat → tn} {g t : Nat} {l : List be} : ∃ k, k < (bSt M g t l).length ∧ bE (bSt M g t l) k = tco (bE l g) (M t) := by
  unfold bSt
  split
  · exact ⟨l.length, by simp, bE_last⟩
  · rename_i h
    rcases fnd_cases (bE l) (tco (bE l g) (M t)) l.length 0 with ⟨q, -⟩ | ⟨i, -, q2, -, q4⟩
    · exact absurd q h
    · exact ⟨i, by omega, q4⟩
theorem bIn_ext {M : Nat → tn} {g m : Nat} (hM : ∀ t, t < m → tok (M t)) : ∀ (j t : Nat) (l : List be), t + j = m → Bi l → g < l.length → Bi (bIn M g j t l) ∧ l.length ≤ (bIn M g j t l).length ∧ (∀ k, k < l.length → bE (bIn M g j t l) k = bE l k) ∧ ∀ t', t ≤ t' → t' < m → ∃ k, k < (bIn M g j t l).length ∧ bE (bIn M g j t l) k = tco (bE l g) (M t') := by
  intro j
  induction j with
  | zero =>
    intro t l ht hi hg
    exact ⟨hi, Nat.le_refl _, fun _ _ => rfl, fun t' h1 h2 => by omega⟩
  | succ j ih =>
    intro t l ht hi hg
    rw [bIn_s]
    have hst := Bi_st (t := t) hi hg (hM t (by omega))
    obtain ⟨r1, r2, r3, r4⟩ := ih (t + 1) (bSt M g t l) (by omega) hst.1 (Nat.lt_of_lt_of_le hg hst.2.1)
    refine ⟨r1, Nat.le_trans hst.2.1 r2, fun k hk => (r3 k (Nat.lt_of_lt_of_le hk hst.2.1)).trans (hst.2.2 k hk), fun t' h1 h2 => ?_⟩
    by_cases e : t' = t
    · subst e
      obtain ⟨k, hk, ek⟩ := bSt_has (M := M) (g := g) (t := t') (l := l)
      exact ⟨k, Nat.lt_of_lt_of_le hk r2, (r3 k hk).trans ek⟩
    · obtain ⟨k, hk, ek⟩ := r4 t' (by omega) h2
      exact ⟨k, hk, by rw [ek, hst.2.2 g hg]⟩
theorem bOut_s (M : Nat → tn) (m f g : Nat) (l : List be) : bOut M m (f + 1) g l = if g < l.length then bOut M m f (g + 1) (bIn M g m 0 l) else l := rfl
/-- behind all elements ahead of g, by all turns: there -/
def Cl (M : Nat → tn) (m : Nat) (l : List be) (g : Nat) : Prop := ∀ g', g' < g → ∀ t, t < m → ∃ k, k < l.length ∧ bE l k = tco (bE l g') (M t)
theorem bOut_ok {M : Nat → tn} {m : Nat} (hM : ∀ t, t < m → tok (M t)) : ∀ (f g : Nat) (l : List be), 49 ≤ g + f → g ≤ l.length → Bi l → Cl M m l g → Bi (bOut M m f g l) ∧ Cl M m (bOut M m f g l) (bOut M m f g l).length := by
  intro f
  induction f with
  | zero =>
    intro g l h1 h2 hi hc
    have := Bi_48 hi
    omega
  | succ f ih =>
    intro g l h1 h2 hi hc
    rw [bOut_s]
    by_cases hg : g < l.length
    · rw [if_pos hg]
      obtain ⟨r1, r2, r3, r4⟩ := bIn_ext hM m 0 l (by omega) hi hg
      refine ih (g + 1) _ (by omega) (by omega) r1 (fun g' hg' t ht => ?_)
      by_cases e : g' = g
      · subst e
        obtain ⟨k, hk, ek⟩ := r4 t (Nat.zero_le _) ht
        exact ⟨k, hk, by rw [ek, r3 g' hg]⟩
      · obtain ⟨k, hk, ek⟩ := hc g' (by omega) t ht
        exact ⟨k, Nat.lt_of_lt_of_le hk r2, by rw [r3 k hk, ek, r3 g' (by omega)]⟩
    · rw [if_neg hg]
      have e : g = l.length := by omega
      subst e
      exact ⟨hi, hc⟩
def b0 : List be := [(tid, 0, 0)]
theorem Bi_0 : Bi b0 := ⟨by decide, rfl, fun g hg => by have : g = 0 := by simp [b0] at hg; exact hg
                                                        subst this; exact tid_ok, fun g h hg hh _ => by simp [b0] at hg hh; omega⟩
/-- the list that the turns M 0 .. M (m - 1) make -/
def bfs (M : Nat → tn) (m : Nat) : List be := bOut M m 49 0 b0
theorem bfs_ok {M : Nat → tn} {m : Nat} (hM : ∀ t, t < m → tok (M t)) : Bi (bfs M m) ∧ Cl M m (bfs M m) (bfs M m).length := bOut_ok hM 49 0 b0 (by omega) (Nat.zero_le _) Bi_0 (fun g' h => absurd h (Nat.not_lt_zero _))
theorem X12_group_out {N : Nat} {M : Nat → tn} {m : Nat} (hN : 100 ≤ N) : ∀ (j g f : Nat) (σ : mS) (l : List be), 49 ≤ g + j → g ≤ l.length → j < f → RB σ l → RM σ M m → Bi l →
    ∃ σ', L_X12_group_83 N f (g : Int) σ = some σ' ∧ RB σ' (bOut M m j g l) ∧ fB σ σ' := by
  intro j
  induction j with
  | zero =>
    intro g f σ l h1 h2 hf hB hM hi
    have := Bi_48 hi
    omega
  | succ j ih =>
    intro g f σ l h1 h2 hf hB hM hi
    obtain ⟨f, rfl⟩ : ∃ f', f = f' + 1 := ⟨f - 1, by omega⟩
    have h48 := Bi_48 hi
    rw [L_X12_group_83_s, bOut_s]
    have hn := hB.1
    by_cases hg : g < l.length
    · rw [if_neg (by omega), if_pos hg]
      obtain ⟨s1, r1, r2, r3, r4, r5⟩ := X12_group_in (g := g) hN m 0 N σ l (by omega) (by have := hM.2.1; omega) hB hM hi hg
      rw [show (0 : Int) = ((0 : Nat) : Int) from rfl, r1, Option.bind_some, show mw ((g : Int) + 1) = ((g + 1 : Nat) : Int) from mw_id (by omega) (by omega)]
      obtain ⟨s2, q1, q2, q3⟩ := ih (g + 1) f s1 _ (by omega) (by omega) (by omega) r2 (RM_fB hM r3) r4
      exact ⟨s2, q1, q2, fr_trans r3.1 q3.1, fun k hk => (q3.2 k hk).trans (r3.2 k hk)⟩
    · rw [if_pos (by omega), if_neg hg]
      exact ⟨σ, rfl, hB, fr_rfl, fun _ _ => rfl⟩
