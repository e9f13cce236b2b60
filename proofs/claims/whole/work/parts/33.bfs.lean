/-! how a group is made: pure, and the reference's loop -/
abbrev be : Type := tn × Nat × Nat
def bE (l : List be) (k : Nat) : tn := (l.getD k (tid, 0, 0)).1
def bSt (M : Nat → tn) (g t : Nat) (l : List be) : List be := if fnd (bE l) (tco (bE l g) (M t)) l.length 0 = -1 then l ++ [(tco (bE l g) (M t), g, t)] else l
def bIn (M : Nat → tn) (g : Nat) : Nat → Nat → List be → List be
  | 0, _, l => l
  | j + 1, t, l => bIn M g j (t + 1) (bSt M g t l)
theorem bIn_s (M : Nat → tn) (g j t : Nat) (l : List be) : bIn M g (j + 1) t l = bIn M g j (t + 1) (bSt M g t l) := rfl
def bOut (M : Nat → tn) (m : Nat) : Nat → Nat → List be → List be
  | 0, _, l => l
  | f + 1, g, l => if g < l.length then bOut M m f (g + 1) (bIn M g m 0 l) else l
/-- the list as it grows: turns, no two alike, the first leaves all -/
def Bi (l : List be) : Prop := 0 < l.length ∧ bE l 0 = tid ∧ (∀ g, g < l.length → tok (bE l g)) ∧ ∀ g h, g < l.length → h < l.length → bE l g = bE l h → g = h
theorem bE_app {l : List be} {x : be} {k : Nat} (h : k < l.length) : bE (l ++ [x]) k = bE l k := by
  unfold bE
  rw [List.getD_eq_getElem?_getD, List.getD_eq_getElem?_getD, List.getElem?_append_left h]
theorem bE_last {l : List be} {x : be} : bE (l ++ [x]) l.length = x.1 := by
  unfold bE
  rw [List.getD_eq_getElem?_getD, List.getElem?_append_right (Nat.le_refl _), Nat.sub_self]
  rfl
theorem Bi_48 {l : List be} (h : Bi l) : l.length ≤ 48 := few48 h.2.2.1 h.2.2.2
theorem Bi_app {l : List be} {c : tn} {g t : Nat} (h : Bi l) (hc : tok c) (hn : fnd (bE l) c l.length 0 = -1) : Bi (l ++ [(c, g, t)]) := by
  have hne : ∀ i, i < l.length → bE l i ≠ c := by
    rcases fnd_cases (bE l) c l.length 0 with ⟨-, q⟩ | ⟨i, -, -, q, -⟩
    · exact fun i hi => q i (Nat.zero_le _) (by omega)
    · rw [hn] at q; omega
  have hl : (l ++ [(c, g, t)]).length = l.length + 1 := by simp
  refine ⟨by omega, by rw [bE_app h.1]; exact h.2.1, fun k hk => ?_, fun a b ha hb e => ?_⟩
  · by_cases e : k < l.length
    · rw [bE_app e]; exact h.2.2.1 k e
    · have : k = l.length := by omega
      subst this
      rw [bE_last]; exact hc
  · by_cases e1 : a < l.length <;> by_cases e2 : b < l.length
    · rw [bE_app e1, bE_app e2] at e; exact h.2.2.2 a b e1 e2 e
    · have : b = l.length := by omega
      subst this
      rw [bE_app e1, bE_last] at e
      exact absurd e (hne a e1)
    · have : a = l.length := by omega
      subst this
      rw [bE_app e2, bE_last] at e
      exact absurd e.symm (hne b e2)
    · omega
theorem Bi_st {M : Nat → tn} {g t : Nat} {l : List be} (h : Bi l) (hg : g < l.length) (hM : tok (M t)) : Bi (bSt M g t l) ∧ l.length ≤ (bSt M g t l).length ∧ ∀ k, k < l.length → bE (bSt M g t l) k = bE l k := by
  unfold bSt
  split
  · rename_i e
    exact ⟨Bi_app h (tco_ok (h.2.2.1 g hg) hM) e, by simp, fun k hk => bE_app hk⟩
  · exact ⟨h, Nat.le_refl _, fun k _ => rfl⟩
/-- the reference's cells bear the list -/
def RB (σ : mS) (l : List be) : Prop := σ 71 0 6 = (l.length : Int) ∧ (∀ k, k < l.length → elR σ k = bE l k) ∧ ∀ k, 0 < k → k < l.length → σ 75 0 k = ((l.getD k (tid, 0, 0)).2.1 : Int) ∧ σ 76 0 k = ((l.getD k (tid, 0, 0)).2.2 : Int)
def RM (σ : mS) (M : Nat → tn) (m : Nat) : Prop := σ 71 0 7 = (m : Int) ∧ m ≤ 4 ∧ ∀ t, t < m → (σ 77 0 (3 * t), σ 77 0 (3 * t + 1), σ 77 0 (3 * t + 2)) = M t ∧ tok (M t)
/-- the reference's numbers but for the list itself and how long it is -/
def fB (σ σ' : mS) : Prop := fr [71, 74, 75, 76] σ σ' ∧ ∀ k, k ≠ 6 → σ' 71 0 k = σ 71 0 k
theorem RM_fB {σ σ' : mS} {M : Nat → tn} {m : Nat} (h : RM σ M m) (hf : fB σ σ') : RM σ' M m := by
  refine ⟨by rw [hf.2 7 (by decide)]; exact h.1, h.2.1, fun t ht => ?_⟩
  rw [hf.1 77 0 _ (by decide), hf.1 77 0 _ (by decide), hf.1 77 0 _ (by decide)]
  exact h.2.2 t ht
theorem fnd_cg {E E' : Nat → tn} {t : tn} : ∀ (j k : Nat), (∀ i, k ≤ i → i < k + j → E i = E' i) → fnd E t j k = fnd E' t j k
  | 0, _, _ => rfl
  | j + 1, k, h => by
    rw [fnd_s, fnd_s, h k (Nat.le_refl _) (by omega), fnd_cg j (k + 1) (fun i h1 h2 => h i (by omega) (by omega))]
set_option maxHeartbeats 4000000 in
theorem X12_group_in {N : Nat} {M : Nat → tn} {m g : Nat} (hN : 100 ≤ N) : ∀ (j t f : Nat) (σ : mS) (l : List be), t + j = m → j < f → RB σ l → RM σ M m → Bi l → g < l.length →
    ∃ σ', L_X12_group_93 N f (g : Int) (t : Int) σ = some σ' ∧ RB σ' (bIn M g j t l) ∧ fB σ σ' ∧ Bi (bIn M g j t l) ∧ l.length ≤ (bIn M g j t l).length := by
  intro j
  induction j with
  | zero =>
    intro t f σ l ht hf hB hM hi hg
    obtain ⟨f, rfl⟩ : ∃ f', f = f' + 1 := ⟨f - 1, by omega⟩
    have h7 := hM.1
    rw [L_X12_group_93_s, if_pos (by omega)]
    exact ⟨σ, rfl, hB, ⟨fr_rfl, fun _ _ => rfl⟩, hi, Nat.le_refl _⟩
  | succ j ih =>
    intro t f σ l ht hf hB hM hi hg
    obtain ⟨f, rfl⟩ : ∃ f', f = f' + 1 := ⟨f - 1, by omega⟩
    have h7 := hM.1
    have hm4 := hM.2.1
    have h48 := Bi_48 hi
    obtain ⟨hMt, hMok⟩ := hM.2.2 t (by omega)
    have hgt : tok (bE l g) := hi.2.2.1 g hg
    have hel : elR σ g = bE l g := hB.2.1 g hg
    have e1 : mw (3 * (g : Int)) = 3 * (g : Int) := mw_id (by omega) (by omega)
    have e2 : mw (3 * (g : Int) + 1) = 3 * (g : Int) + 1 := mw_id (by omega) (by omega)
    have e3 : mw (3 * (g : Int) + 2) = 3 * (g : Int) + 2 := mw_id (by omega) (by omega)
    have d1 : mw (3 * (t : Int)) = 3 * (t : Int) := mw_id (by omega) (by omega)
    have d2 : mw (3 * (t : Int) + 1) = 3 * (t : Int) + 1 := mw_id (by omega) (by omega)
    have d3 : mw (3 * (t : Int) + 2) = 3 * (t : Int) + 2 := mw_id (by omega) (by omega)
    have d4 : mw ((t : Int) + 1) = ((t + 1 : Nat) : Int) := mw_id (by omega) (by omega)
    have t1 : (3 * (g : Int)).toNat = 3 * g := by omega
    have t2 : (3 * (g : Int) + 1).toNat = 3 * g + 1 := by omega
    have t3 : (3 * (g : Int) + 2).toNat = 3 * g + 2 := by omega
    have u1 : (3 * (t : Int)).toNat = 3 * t := by omega
    have u2 : (3 * (t : Int) + 1).toNat = 3 * t + 1 := by omega
    have u3 : (3 * (t : Int) + 2).toNat = 3 * t + 2 := by omega
    rw [L_X12_group_93_s, if_neg (by omega)]
    simp only [e1, e2, e3, d1, d2, d3, d4, t1, t2, t3, u1, u2, u3]
    have c1 : ∀ (x : Int), cok x → ∀ s : mS, s 77 0 (3 * t) = (M t).1 → s 77 0 (3 * t + 1) = (M t).2.1 → s 77 0 (3 * t + 2) = (M t).2.2 → f_X12_then N x (s 77 0 (3 * t)) (s 77 0 (3 * t + 1)) (s 77 0 (3 * t + 2)) s = some (cth x (M t), s) := fun x hx s q1 q2 q3 => by
      rw [q1, q2, q3]; exact X12_then_eq hx hMok
    have m1 : σ 77 0 (3 * t) = (M t).1 := congrArg Prod.fst hMt
    have m2 : σ 77 0 (3 * t + 1) = (M t).2.1 := congrArg (fun x : tn => x.2.1) hMt
    have m3 : σ 77 0 (3 * t + 2) = (M t).2.2 := congrArg (fun x : tn => x.2.2) hMt
    have g1 : σ 74 0 (3 * g) = (bE l g).1 := congrArg Prod.fst hel
    have g2 : σ 74 0 (3 * g + 1) = (bE l g).2.1 := congrArg (fun x : tn => x.2.1) hel
    have g3 : σ 74 0 (3 * g + 2) = (bE l g).2.2 := congrArg (fun x : tn => x.2.2) hel
    have w1 : (0 ≤ 3 * (g : Int) ∧ 3 * (g : Int) < 144) ∧ (0 ≤ 3 * (t : Int) ∧ 3 * (t : Int) < 12) ∧ (0 ≤ 3 * (t : Int) + 1 ∧ 3 * (t : Int) + 1 < 12) ∧ (0 ≤ 3 * (t : Int) + 2 ∧ 3 * (t : Int) + 2 < 12) := by omega
    have w2 : (0 ≤ 3 * (g : Int) + 1 ∧ 3 * (g : Int) + 1 < 144) ∧ (0 ≤ 3 * (t : Int) ∧ 3 * (t : Int) < 12) ∧ (0 ≤ 3 * (t : Int) + 1 ∧ 3 * (t : Int) + 1 < 12) ∧ (0 ≤ 3 * (t : Int) + 2 ∧ 3 * (t : Int) + 2 < 12) := by omega
    have w3 : (0 ≤ 3 * (g : Int) + 2 ∧ 3 * (g : Int) + 2 < 144) ∧ (0 ≤ 3 * (t : Int) ∧ 3 * (t : Int) < 12) ∧ (0 ≤ 3 * (t : Int) + 1 ∧ 3 * (t : Int) + 1 < 12) ∧ (0 ≤ 3 * (t : Int) + 2 ∧ 3 * (t : Int) + 2 < 12) := by omega
    rw [if_pos w1, g1, c1 _ hgt.1 σ m1 m2 m3, Option.bind_some]
    dsimp only
    rw [if_pos w2, g2, c1 _ hgt.2.1 σ m1 m2 m3, Option.bind_some]
    dsimp only
    rw [if_pos w3, g3, c1 _ hgt.2.2.1 σ m1 m2 m3, Option.bind_some]
    dsimp only
    rw [show f_X12_find N (cth (bE l g).1 (M t)) (cth (bE l g).2.1 (M t)) (cth (bE l g).2.2 (M t)) σ = some (fnd (elR σ) (tco (bE l g) (M t)) l.length 0, σ) from X12_find_eq (t := tco (bE l g) (M t)) hN hB.1 h48, Option.bind_some]
    dsimp only
    have hcok : tok (tco (bE l g) (M t)) := tco_ok hgt hMok
    have hst := Bi_st (t := t) hi hg hMok
    rw [fnd_cg l.length 0 (E' := bE l) (fun i _ h2 => hB.2.1 i (by omega))]
    rw [bIn_s]
    by_cases hv : fnd (bE l) (tco (bE l g) (M t)) l.length 0 = -1
    · rw [if_pos hv]
      have hbs : bSt M g t l = l ++ [(tco (bE l g) (M t), g, t)] := by unfold bSt; rw [if_pos hv]
      have hn48 : l.length < 48 := by
        have := Bi_48 hst.1
        rw [hbs, List.length_append] at this
        simp at this
        omega
      have hn := hB.1
      simp only [hn]
      have x1 : mw (3 * (l.length : Int)) = 3 * (l.length : Int) := mw_id (by omega) (by omega)
      have x2 : mw (3 * (l.length : Int) + 1) = 3 * (l.length : Int) + 1 := mw_id (by omega) (by omega)
      have x3 : mw (3 * (l.length : Int) + 2) = 3 * (l.length : Int) + 2 := mw_id (by omega) (by omega)
      have x4 : mw ((l.length : Int) + 1) = ((l.length + 1 : Nat) : Int) := mw_id (by omega) (by omega)
      have y1 : (3 * (l.length : Int)).toNat = 3 * l.length := by omega
      have y2 : (3 * (l.length : Int) + 1).toNat = 3 * l.length + 1 := by omega
      have y3 : (3 * (l.length : Int) + 2).toNat = 3 * l.length + 2 := by omega
      have y4 : (l.length : Int).toNat = l.length := by omega
      simp only [x1, x2, x3, x4, y1, y2, y3, y4]
      have w4 : (0 ≤ 3 * (l.length : Int) ∧ 3 * (l.length : Int) < 144) ∧ (0 ≤ 3 * (l.length : Int) + 1 ∧ 3 * (l.length : Int) + 1 < 144) ∧ (0 ≤ 3 * (l.length : Int) + 2 ∧ 3 * (l.length : Int) + 2 < 144) ∧ (0 ≤ (l.length : Int) ∧ (l.length : Int) < 48) := by omega
      rw [if_pos w4]
      generalize hs1 : mup (mup (mup (mup (mup (mup σ 74 0 (3 * l.length) (cth (bE l g).1 (M t))) 74 0 (3 * l.length + 1) (cth (bE l g).2.1 (M t))) 74 0 (3 * l.length + 2) (cth (bE l g).2.2 (M t))) 75 0 l.length (g : Int)) 76 0 l.length (t : Int)) 71 0 6 ((l.length + 1 : Nat) : Int) = s1
      have f1 : fB σ s1 := by
        subst hs1
        refine ⟨fr_mup (fr_mup (fr_mup (fr_mup (fr_mup (fr_mup fr_rfl (by decide)) (by decide)) (by decide)) (by decide)) (by decide)) (by decide), fun k hk => ?_⟩
        simp [mup_def, hk]
      have hB1 : RB s1 (bSt M g t l) := by
        rw [hbs]
        subst hs1
        refine ⟨by simp [mup_def], fun k hk => ?_, fun k h0 hk => ?_⟩
        · by_cases e : k < l.length
          · rw [bE_app e, ← hB.2.1 k e]
            unfold elR
            simp only [mup_def]
            simp (disch := omega) [show ¬ (3 * k = 3 * l.length) by omega, show ¬ (3 * k = 3 * l.length + 1) by omega, show ¬ (3 * k = 3 * l.length + 2) by omega, show ¬ (3 * k + 1 = 3 * l.length) by omega, show ¬ (3 * k + 1 = 3 * l.length + 2) by omega, show ¬ (3 * k + 2 = 3 * l.length) by omega, show ¬ (3 * k + 2 = 3 * l.length + 1) by omega, show ¬ (k = l.length) by omega]
          · have : k = l.length := by simp at hk; omega
            subst this
            rw [bE_last]
            unfold elR tco
            simp [mup_def]
        · by_cases e : k < l.length
          · have q := hB.2.2 k h0 e
            rw [List.getD_eq_getElem?_getD, List.getElem?_append_left e, ← List.getD_eq_getElem?_getD]
            simp [mup_def, show ¬ (k = l.length) by omega]
            exact q
          · have : k = l.length := by simp at hk; omega
            subst this
            rw [List.getD_eq_getElem?_getD, List.getElem?_append_right (Nat.le_refl _), Nat.sub_self]
            simp [mup_def]
      obtain ⟨σ', r1, r2, r3, r4, r5⟩ := ih (t + 1) f s1 (bSt M g t l) (by omega) (by omega) hB1 (RM_fB hM f1) hst.1 (Nat.lt_of_lt_of_le hg hst.2.1)
      exact ⟨σ', r1, r2, ⟨fr_trans f1.1 r3.1, fun k hk => (r3.2 k hk).trans (f1.2 k hk)⟩, r4, Nat.le_trans hst.2.1 r5⟩
    · rw [if_neg hv]
      have hbs : bSt M g t l = l := by unfold bSt; rw [if_neg hv]
      rw [hbs]
      exact ih (t + 1) f σ l (by omega) (by omega) hB hM hi hg
