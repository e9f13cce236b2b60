/-! the class's outer loop; its table -/
def WT (σ : mS) (M : Nat → tn) (m : Nat) (l : List be) (g : Nat) : Prop := ∀ g', g' < g → ∀ t, t < m → ∃ k : Nat, k < l.length ∧ σ 12 g' t = (k : Int) ∧ bE l k = tco (bE l g') (M t)
theorem X1_makeOf_out {N : Nat} {M : Nat → tn} {m : Nat} (hN : 100 ≤ N) : ∀ (j g f : Nat) (σ : mS) (l : List be), 49 ≤ g + j → g ≤ l.length → j < f → CB σ l → CM σ M m → Bi l → WT σ M m l g →
    ∃ σ', L_X1_makeOf_30 N f (g : Int) σ = some σ' ∧ CB σ' (bOut M m j g l) ∧ fD σ σ' ∧ WT σ' M m (bOut M m j g l) (bOut M m j g l).length := by
  intro j
  induction j with
  | zero =>
    intro g f σ l h1 h2 hf hB hM hi hW
    have := Bi_48 hi
    omega
  | succ j ih =>
    intro g f σ l h1 h2 hf hB hM hi hW
    obtain ⟨f, rfl⟩ : ∃ f', f = f' + 1 := ⟨f - 1, by omega⟩
    have h48 := Bi_48 hi
    have hn := hB.1
    have hm4 := hM.2.1
    rw [L_X1_makeOf_30_s, bOut_s]
    by_cases hg : g < l.length
    · rw [if_neg (by omega), if_neg (by omega), if_pos hg]
      obtain ⟨s1, r1, r2, r3, r4, r5⟩ := X1_makeOf_in (N := N) (g := g) m 0 N σ l (by omega) (by omega) hB hM hi hg
      obtain ⟨x1, x2, x3, -⟩ := bIn_ext (M := M) (g := g) (m := m) (fun t ht => (hM.2.2 t ht).2) m 0 l (by omega) hi hg
      rw [show (0 : Int) = ((0 : Nat) : Int) from rfl, r1, Option.bind_some, show mw ((g : Int) + 1) = ((g + 1 : Nat) : Int) from mw_id (by omega) (by omega)]
      obtain ⟨s2, q1, q2, q3, q4⟩ := ih (g + 1) f s1 _ (by omega) (by omega) (by omega) r2 (CM_fD hM r3) x1 (fun g' hg' t ht => by
        by_cases e : g' = g
        · subst e
          obtain ⟨k, y1, y2, y3⟩ := r4 t (Nat.zero_le _) ht
          exact ⟨k, y1, y2, by rw [y3, x3 g' hg]⟩
        · obtain ⟨k, y1, y2, y3⟩ := hW g' (by omega) t ht
          exact ⟨k, Nat.lt_of_lt_of_le y1 x2, by rw [r5 g' t (Or.inl e)]; exact y2, by rw [x3 k y1, y3, x3 g' (by omega)]⟩)
      exact ⟨s2, q1, q2, fD_trans r3 q3, q4⟩
    · rw [if_pos (by omega), if_neg hg]
      have e : g = l.length := by omega
      subst e
      exact ⟨σ, rfl, hB, fD_rfl, hW⟩
/-- the class bears the group: elements, what they are made from, the turns' places -/
def CG (σ : mS) (M : Nat → tn) (m : Nat) (l : List be) : Prop := CB σ l ∧ WT σ M m l l.length ∧ Bi l ∧ Gn M m l ∧ GP (bE l) l.length ∧ m ≤ 4 ∧ ∀ t, t < m → tok (M t)
theorem CG_48 {σ : mS} {M : Nat → tn} {m : Nat} {l : List be} (h : CG σ M m l) : l.length ≤ 48 := Bi_48 h.2.2.1
theorem CG_fr {σ σ' : mS} {M : Nat → tn} {m : Nat} {l : List be} {R : List Nat} (h : CG σ M m l) (hf : fr R σ σ') (h5 : 5 ∉ R) (h7 : 7 ∉ R) (h8 : 8 ∉ R) (h12 : 12 ∉ R) (h13 : 13 ∉ R) (h14 : 14 ∉ R) : CG σ' M m l := by
  obtain ⟨⟨a1, a2, a3, a4⟩, b, c⟩ := h
  refine ⟨⟨by rw [hf 5 0 0 h5]; exact a1, fun k hk => ?_, fun t ht => by rw [hf 8 0 _ h8]; exact a3 t ht, fun k hk => by rw [hf 13 0 _ h13, hf 14 0 _ h14]; exact a4 k hk⟩, fun g hg t ht => ?_, c⟩
  · unfold elC
    rw [hf 7 _ _ h7, hf 7 _ _ h7, hf 7 _ _ h7]
    exact a2 k hk
  · obtain ⟨k, y1, y2, y3⟩ := b g hg t ht
    exact ⟨k, y1, by rw [hf 12 _ _ h12]; exact y2, y3⟩
theorem X1_table_in {N : Nat} {M : Nat → tn} {m g : Nat} {l : List be} : ∀ (j h f : Nat) (σ : mS), 0 < h → h + j = l.length → j < f → CG σ M m l → g < l.length → (∀ h', h' < h → σ 16 g h' = (gm (bE l) l.length g h' : Int)) →
    ∃ σ', L_X1_fillTable_21 N f (g : Int) (h : Int) σ = some σ' ∧ fr [16] σ σ' ∧ (∀ h', h' < l.length → σ' 16 g h' = (gm (bE l) l.length g h' : Int)) ∧ ∀ g' h', g' ≠ g → σ' 16 g' h' = σ 16 g' h' := by
  intro j
  induction j with
  | zero =>
    intro h f σ h0 h1 h2 H hg hT
    obtain ⟨f, rfl⟩ : ∃ f', f = f' + 1 := ⟨f - 1, by omega⟩
    have hn := H.1.1
    rw [L_X1_fillTable_21_s, if_pos (by omega)]
    exact ⟨σ, rfl, fr_rfl, fun h' q => hT h' (by omega), fun _ _ _ => rfl⟩
  | succ j ih =>
    intro h f σ h0 h1 h2 H hg hT
    obtain ⟨f, rfl⟩ : ∃ f', f = f' + 1 := ⟨f - 1, by omega⟩
    have hn := H.1.1
    have h48 := CG_48 H
    have hh : h < l.length := by omega
    obtain ⟨p1, p2, p3⟩ := H.2.2.2.1 h h0 hh
    obtain ⟨m1, m2⟩ := H.1.2.2.2 h hh
    have hG := H.2.2.2.2.1
    have hFl : bF l h < l.length := by omega
    obtain ⟨a1, a2⟩ := gm_ok hG hg hFl
    obtain ⟨k, y1, y2, y3⟩ := H.2.1 _ a1 _ p2
    have hkk : gm (bE l) l.length g h = k := gm_eq hG hg hh y1 (by rw [y3, a2, p3, tco_as (hG.2.2.1 g hg) (hG.2.2.1 _ hFl)])
    have hrow := hT (bF l h) p1
    have hm4 := H.2.2.2.2.2.1
    rw [L_X1_fillTable_21_s, if_neg (by omega)]
    rw [show (g : Int).toNat = g from by omega, show (h : Int).toNat = h from by omega, m1, m2, show ((bF l h : Nat) : Int).toNat = bF l h from by omega, show ((bB l h : Nat) : Int).toNat = bB l h from by omega, hrow, show ((gm (bE l) l.length g (bF l h) : Nat) : Int).toNat = gm (bE l) l.length g (bF l h) from by omega, y2]
    rw [if_pos (by omega), show mw ((h : Int) + 1) = ((h + 1 : Nat) : Int) from mw_id (by omega) (by omega)]
    have ffr : fr [16] σ (mup σ 16 g h (k : Int)) := fr_mup fr_rfl (by decide)
    obtain ⟨σ', q1, q2, q3, q4⟩ := ih (h + 1) f _ (by omega) (by omega) (by omega) (CG_fr H ffr (by decide) (by decide) (by decide) (by decide) (by decide) (by decide)) hg (fun h' hh' => by
      by_cases e : h' = h
      · subst e; rw [mup_s, hkk]
      · rw [mup_k e]; exact hT h' (by omega))
    exact ⟨σ', q1, fr_trans ffr q2, q3, fun g' h' hne => by rw [q4 g' h' hne, mup_i hne]⟩
theorem X1_table_out {N : Nat} {M : Nat → tn} {m : Nat} {l : List be} (hN : 100 ≤ N) : ∀ (j g f : Nat) (σ : mS), g + j = l.length → j < f → CG σ M m l → (∀ g', g' < g → ∀ h', h' < l.length → σ 16 g' h' = (gm (bE l) l.length g' h' : Int)) →
    ∃ σ', L_X1_fillTable_2 N f (g : Int) σ = some σ' ∧ fr [16] σ σ' ∧ ∀ g', g' < l.length → ∀ h', h' < l.length → σ' 16 g' h' = (gm (bE l) l.length g' h' : Int) := by
  intro j
  induction j with
  | zero =>
    intro g f σ h1 h2 H hT
    obtain ⟨f, rfl⟩ : ∃ f', f = f' + 1 := ⟨f - 1, by omega⟩
    have hn := H.1.1
    rw [L_X1_fillTable_2_s, if_pos (by omega)]
    exact ⟨σ, rfl, fr_rfl, fun g' q => hT g' (by omega)⟩
  | succ j ih =>
    intro g f σ h1 h2 H hT
    obtain ⟨f, rfl⟩ : ∃ f', f = f' + 1 := ⟨f - 1, by omega⟩
    have hn := H.1.1
    have h48 := CG_48 H
    have hg : g < l.length := by omega
    have hG := H.2.2.2.2.1
    rw [L_X1_fillTable_2_s, if_neg (by omega), if_pos (by omega), show (g : Int).toNat = g from by omega, show mw ((g : Int) + 1) = ((g + 1 : Nat) : Int) from mw_id (by omega) (by omega)]
    have f0 : fr [16] σ (mup σ 16 g 0 (g : Int)) := fr_mup fr_rfl (by decide)
    have H0 := CG_fr H f0 (by decide) (by decide) (by decide) (by decide) (by decide) (by decide)
    obtain ⟨s1, r1, r2, r3, r4⟩ := X1_table_in (N := N) (g := g) (l.length - 1) 1 N _ (by omega) (by omega) (by omega) H0 hg (fun h' hh' => by
      have : h' = 0 := by omega
      subst this
      rw [mup_s, gm_r hG hg])
    rw [show (1 : Int) = ((1 : Nat) : Int) from rfl, r1, Option.bind_some]
    obtain ⟨s2, q1, q2, q3⟩ := ih (g + 1) f s1 (by omega) (by omega) (CG_fr H0 r2 (by decide) (by decide) (by decide) (by decide) (by decide) (by decide)) (fun g' hg' h' hh' => by
      by_cases e : g' = g
      · subst e; exact r3 h' hh'
      · rw [r4 g' h' e, mup_i e]; exact hT g' (by omega) h' hh')
    exact ⟨s2, q1, fr_trans f0 (fr_trans r2 q2), q3⟩
theorem X1_fillTable_eq {N : Nat} {M : Nat → tn} {m : Nat} {l : List be} {σ : mS} (hN : 100 ≤ N) (H : CG σ M m l) : ∃ σ', f_X1_fillTable N σ = some σ' ∧ fr [16] σ σ' ∧ ∀ g', g' < l.length → ∀ h', h' < l.length → σ' 16 g' h' = (gm (bE l) l.length g' h' : Int) := by
  have h48 := CG_48 H
  obtain ⟨s, q1, q2, q3⟩ := X1_table_out hN l.length 0 N σ (by omega) (by omega) H (fun g' h => absurd h (Nat.not_lt_zero _))
  refine ⟨s, ?_, q2, q3⟩
  unfold f_X1_fillTable
  rw [show (0 : Int) = ((0 : Nat) : Int) from rfl, q1]
  rfl
