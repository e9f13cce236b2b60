/-! the class's loops that make the list -/
def CM (σ : mS) (M : Nat → tn) (m : Nat) : Prop := σ 5 0 1 = (m : Int) ∧ m ≤ 4 ∧ ∀ t, t < m → (σ 10 t 0, σ 10 t 1, σ 10 t 2) = M t ∧ tok (M t)
def fD (σ σ' : mS) : Prop := fr [5, 7, 8, 12, 13, 14] σ σ' ∧ ∀ k, k ≠ 0 → σ' 5 0 k = σ 5 0 k
theorem fD_rfl {σ : mS} : fD σ σ := ⟨fr_rfl, fun _ _ => rfl⟩
theorem fD_trans {a b c : mS} (h1 : fD a b) (h2 : fD b c) : fD a c := ⟨fr_trans h1.1 h2.1, fun k hk => (h2.2 k hk).trans (h1.2 k hk)⟩
theorem fD_of {a b : mS} (h : fC a b) : fD a b := ⟨fr_sub h.1 (fun r hr => by simp at hr ⊢; omega), h.2⟩
theorem CM_fD {σ σ' : mS} {M : Nat → tn} {m : Nat} (h : CM σ M m) (hf : fD σ σ') : CM σ' M m := by
  refine ⟨by rw [hf.2 1 (by decide)]; exact h.1, h.2.1, fun t ht => ?_⟩
  rw [hf.1 10 _ _ (by decide), hf.1 10 _ _ (by decide), hf.1 10 _ _ (by decide)]
  exact h.2.2 t ht
theorem CB_12 {σ : mS} {l : List be} {g t : Nat} {z : Int} (h : CB σ l) : CB (mup σ 12 g t z) l := by
  refine ⟨by rw [mup_r (by decide)]; exact h.1, fun k hk => ?_, fun q hq => by rw [mup_r (by decide)]; exact h.2.2.1 q hq, fun k hk => ?_⟩
  · unfold elC
    rw [mup_r (by decide), mup_r (by decide), mup_r (by decide)]
    exact h.2.1 k hk
  · rw [mup_r (by decide), mup_r (by decide)]
    exact h.2.2.2 k hk
theorem bAd_st {M : Nat → tn} {g t : Nat} {l : List be} : bAd (tco (bE l g) (M t)) g t l = bSt M g t l := rfl
theorem X1_eTT_eq {N : Nat} {M : Nat → tn} {m g t : Nat} {σ : mS} {l : List be} (hB : CB σ l) (hM : CM σ M m) (hi : Bi l) (hg : g < l.length) (ht : t < m) :
    ∃ σ', f_X1_elementThenTurn N (g : Int) (t : Int) σ = some (fnd (bE (bSt M g t l)) (tco (bE l g) (M t)) (bSt M g t l).length 0, σ') ∧ CB σ' (bSt M g t l) ∧ fC σ σ' := by
  have h48 := Bi_48 hi
  have hm4 := hM.2.1
  obtain ⟨hMt, hMok⟩ := hM.2.2 t ht
  have hgt : tok (bE l g) := hi.2.2.1 g hg
  have hel : elC σ g = bE l g := hB.2.1 g hg
  have g1 : σ 7 g 0 = (bE l g).1 := congrArg Prod.fst hel
  have g2 : σ 7 g 1 = (bE l g).2.1 := congrArg (fun x : tn => x.2.1) hel
  have g3 : σ 7 g 2 = (bE l g).2.2 := congrArg (fun x : tn => x.2.2) hel
  unfold f_X1_elementThenTurn
  rw [show (g : Int).toNat = g from by omega, show (t : Int).toNat = t from by omega, if_pos (by omega), g1, X1_codeThen_eq hgt.1 hMok hMt, Option.bind_some]
  dsimp only
  rw [g2, X1_codeThen_eq hgt.2.1 hMok hMt, Option.bind_some]
  dsimp only
  rw [g3, X1_codeThen_eq hgt.2.2.1 hMok hMt, Option.bind_some]
  dsimp only
  have hcok : tok (tco (bE l g) (M t)) := tco_ok hgt hMok
  obtain ⟨σ', r1, r2, r3⟩ := X1_findOrAdd_eq (N := N) (g := g) (t := t) hB hcok h48 (fun hv => by
    have := Bi_48 (Bi_app (g := g) (t := t) hi hcok hv)
    simp at this
    omega)
  refine ⟨σ', ?_, r2, r3⟩
  rw [show f_X1_findOrAdd N (cth (bE l g).1 (M t)) (cth (bE l g).2.1 (M t)) (cth (bE l g).2.2 (M t)) (g : Int) (t : Int) σ = _ from r1, Option.bind_some]
  rfl
theorem X1_makeOf_in {N : Nat} {M : Nat → tn} {m g : Nat} : ∀ (j t f : Nat) (σ : mS) (l : List be), t + j = m → j < f → CB σ l → CM σ M m → Bi l → g < l.length →
    ∃ σ', L_X1_makeOf_46 N f (g : Int) (t : Int) σ = some σ' ∧ CB σ' (bIn M g j t l) ∧ fD σ σ' ∧ (∀ t', t ≤ t' → t' < m → ∃ k : Nat, k < (bIn M g j t l).length ∧ σ' 12 g t' = (k : Int) ∧ bE (bIn M g j t l) k = tco (bE l g) (M t')) ∧ ∀ g' t', g' ≠ g ∨ t' < t → σ' 12 g' t' = σ 12 g' t' := by
  intro j
  induction j with
  | zero =>
    intro t f σ l h1 h2 hB hM hi hg
    obtain ⟨f, rfl⟩ : ∃ f', f = f' + 1 := ⟨f - 1, by omega⟩
    have h7 := hM.1
    rw [L_X1_makeOf_46_s, if_pos (by omega)]
    exact ⟨σ, rfl, hB, fD_rfl, fun t' q1 q2 => by omega, fun _ _ _ => rfl⟩
  | succ j ih =>
    intro t f σ l h1 h2 hB hM hi hg
    obtain ⟨f, rfl⟩ : ∃ f', f = f' + 1 := ⟨f - 1, by omega⟩
    have h7 := hM.1
    have hm4 := hM.2.1
    have h48 := Bi_48 hi
    have htm : t < m := by omega
    have hMok := (hM.2.2 t htm).2
    obtain ⟨s1, r1, r2, r3⟩ := X1_eTT_eq (N := N) hB hM hi hg htm
    rw [L_X1_makeOf_46_s, if_neg (by omega), if_pos (by omega), r1, Option.bind_some]
    dsimp only
    rw [if_pos (by omega), show (g : Int).toNat = g from by omega, show (t : Int).toNat = t from by omega, show mw ((t : Int) + 1) = ((t + 1 : Nat) : Int) from mw_id (by omega) (by omega), bIn_s]
    have hst := Bi_st (t := t) hi hg hMok
    obtain ⟨k0, hk0, ek0⟩ := bSt_has (M := M) (g := g) (t := t) (l := l)
    have hfk : fnd (bE (bSt M g t l)) (tco (bE l g) (M t)) (bSt M g t l).length 0 = (k0 : Int) := by
      rw [← ek0]
      exact fnd_some _ 0 k0 (Nat.zero_le _) (by omega) rfl (fun i _ hi2 e => by have := hst.1.2.2.2 i k0 (by omega) hk0 e; omega)
    rw [hfk]
    generalize hs2 : mup s1 12 g t (k0 : Int) = s2
    have f2 : fD σ s2 := by
      subst hs2
      refine ⟨fr_mup (fD_of r3).1 (by decide), fun k hk => ?_⟩
      rw [mup_r (by decide)]; exact r3.2 k hk
    have B2 : CB s2 (bSt M g t l) := by subst hs2; exact CB_12 r2
    obtain ⟨σ', q1, q2, q3, q4, q5⟩ := ih (t + 1) f s2 (bSt M g t l) (by omega) (by omega) B2 (CM_fD hM f2) hst.1 (Nat.lt_of_lt_of_le hg hst.2.1)
    obtain ⟨x1, x2, x3, x4⟩ := bIn_ext (M := M) (g := g) (m := m) (fun t ht => (hM.2.2 t ht).2) j (t + 1) (bSt M g t l) (by omega) hst.1 (Nat.lt_of_lt_of_le hg hst.2.1)
    refine ⟨σ', q1, q2, fD_trans f2 q3, fun t' p1 p2 => ?_, fun g' t' p => ?_⟩
    · by_cases e : t' = t
      · subst e
        refine ⟨k0, Nat.lt_of_lt_of_le hk0 x2, ?_, by rw [x3 k0 hk0, ek0]⟩
        rw [q5 g t' (Or.inr (by omega))]
        subst hs2
        rw [mup_s]
      · obtain ⟨k, y1, y2, y3⟩ := q4 t' (by omega) p2
        exact ⟨k, y1, y2, by rw [y3, hst.2.2 g hg]⟩
    · rw [q5 g' t' (by omega)]
      subst hs2
      rw [mup_def, if_neg (by omega)]
      exact r3.1 12 g' t' (by decide)
