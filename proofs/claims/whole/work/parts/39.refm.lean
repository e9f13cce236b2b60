/-! the turns that are told, and the reference's makers -/
/-- the reference's cells bear the told turns -/
def TR (σ : mS) (T : Nat → Option tn) : Prop := ∀ i, i < 4 → (σ 72 0 i = if (T i).isSome then 1 else 0) ∧ ∀ t, T i = some t → tok t ∧ (σ 73 0 (3 * i), σ 73 0 (3 * i + 1), σ 73 0 (3 * i + 2)) = t
def mkl (T : Nat → Option tn) : Nat → List tn
  | 0 => []
  | i + 1 => mkl T i ++ (T i).toList
theorem mkl_s (T : Nat → Option tn) (i : Nat) : mkl T (i + 1) = mkl T i ++ (T i).toList := rfl
theorem mkl_len (T : Nat → Option tn) : ∀ i, (mkl T i).length ≤ i
  | 0 => Nat.le_refl _
  | i + 1 => by
    rw [mkl_s, List.length_append]
    have := mkl_len T i
    cases T i with
    | none => simp; omega
    | some t => simp; omega
def mkM (T : Nat → Option tn) (t : Nat) : tn := (mkl T 4).getD t tid
/-- the makers' cells bear this list -/
def RL_ (σ : mS) (l : List tn) : Prop := σ 71 0 7 = (l.length : Int) ∧ ∀ t, t < l.length → (σ 77 0 (3 * t), σ 77 0 (3 * t + 1), σ 77 0 (3 * t + 2)) = l.getD t tid
theorem X12_group_cp {N : Nat} {i m : Nat} {σ : mS} (hi : i < 4) (hm : m < 4) (h7 : σ 71 0 7 = (m : Int)) (f : Nat) (hf : 5 ≤ f) : L_X12_group_31 N f (i : Int) 0 σ = some (mup (mup (mup σ 77 0 (3 * m) (σ 73 0 (3 * i))) 77 0 (3 * m + 1) (σ 73 0 (3 * i + 1))) 77 0 (3 * m + 2) (σ 73 0 (3 * i + 2))) := by
  obtain ⟨f, rfl⟩ : ∃ f', f = f' + 1 + 1 + 1 + 1 := ⟨f - 4, by omega⟩
  have e1 : mw (3 * (i : Int)) = 3 * (i : Int) := mw_id (by omega) (by omega)
  have e2 : mw (3 * (m : Int)) = 3 * (m : Int) := mw_id (by omega) (by omega)
  have st : ∀ (k : Nat) (fu : Nat) (s : mS), k < 3 → s 71 0 7 = (m : Int) → L_X12_group_31 N (fu + 1) (i : Int) (k : Int) s = L_X12_group_31 N fu (i : Int) ((k + 1 : Nat) : Int) (mup s 77 0 (3 * m + k) (s 73 0 (3 * i + k))) := by
    intro k fu s hk hs
    rw [L_X12_group_31_s, if_neg (by omega), hs, e1, e2]
    have x1 : mw (3 * (i : Int) + (k : Int)) = 3 * (i : Int) + (k : Int) := mw_id (by omega) (by omega)
    have x2 : mw (3 * (m : Int) + (k : Int)) = 3 * (m : Int) + (k : Int) := mw_id (by omega) (by omega)
    have x3 : mw ((k : Int) + 1) = ((k + 1 : Nat) : Int) := mw_id (by omega) (by omega)
    have y1 : (3 * (i : Int) + (k : Int)).toNat = 3 * i + k := by omega
    have y2 : (3 * (m : Int) + (k : Int)).toNat = 3 * m + k := by omega
    rw [x1, x2, x3, y1, y2, if_pos (by omega)]
  rw [show (0 : Int) = ((0 : Nat) : Int) from rfl, st 0 _ σ (by omega) h7, st 1 _ _ (by omega) (by rw [mup_r (by decide)]; exact h7), st 2 _ _ (by omega) (by rw [mup_r (by decide), mup_r (by decide)]; exact h7), L_X12_group_31_s, if_pos (by omega)]
  simp only [mup_r (show (73 : Nat) ≠ 77 by decide), Nat.add_zero, Nat.zero_add]
theorem X12_group_mk {N : Nat} {T : Nat → Option tn} (hN : 100 ≤ N) : ∀ (j i f : Nat) (σ : mS), i + j = 4 → j < f → TR σ T → RL_ σ (mkl T i) →
    ∃ σ', L_X12_group_12 N f (i : Int) σ = some σ' ∧ RL_ σ' (mkl T 4) ∧ fr [71, 77] σ σ' ∧ ∀ k, k ≠ 7 → σ' 71 0 k = σ 71 0 k := by
  intro j
  induction j with
  | zero =>
    intro i f σ h1 h2 hT hL
    obtain ⟨f, rfl⟩ : ∃ f', f = f' + 1 := ⟨f - 1, by omega⟩
    have e : i = 4 := by omega
    subst e
    rw [L_X12_group_12_s, if_pos (by omega)]
    exact ⟨σ, rfl, hL, fr_rfl, fun _ _ => rfl⟩
  | succ j ih =>
    intro i f σ h1 h2 hT hL
    obtain ⟨f, rfl⟩ : ∃ f', f = f' + 1 := ⟨f - 1, by omega⟩
    obtain ⟨hb, ht⟩ := hT i (by omega)
    have hlen := mkl_len T i
    rw [L_X12_group_12_s, if_neg (by omega), if_pos (by omega), show (i : Int).toNat = i from by omega, hb, show mw ((i : Int) + 1) = ((i + 1 : Nat) : Int) from mw_id (by omega) (by omega)]
    cases hTi : T i with
    | none =>
      have e : mkl T (i + 1) = mkl T i := by rw [mkl_s, hTi]; simp
      rw [if_pos (by simp)]
      exact ih (i + 1) f σ (by omega) (by omega) hT (by rw [e]; exact hL)
    | some t =>
      have e : mkl T (i + 1) = mkl T i ++ [t] := by rw [mkl_s, hTi]; rfl
      obtain ⟨htok, hcd⟩ := ht t hTi
      rw [if_neg (by simp), X12_group_cp (by omega) (show (mkl T i).length < 4 by omega) hL.1 N (by omega), Option.bind_some]
      generalize hs1 : mup (mup (mup σ 77 0 (3 * (mkl T i).length) (σ 73 0 (3 * i))) 77 0 (3 * (mkl T i).length + 1) (σ 73 0 (3 * i + 1))) 77 0 (3 * (mkl T i).length + 2) (σ 73 0 (3 * i + 2)) = s1
      have f1 : fr [77] σ s1 := by subst hs1; exact fr_mup (fr_mup (fr_mup fr_rfl (by decide)) (by decide)) (by decide)
      rw [f1 71 0 7 (by decide), hL.1, show mw (((mkl T i).length : Int) + 1) = (((mkl T i).length + 1 : Nat) : Int) from mw_id (by omega) (by omega)]
      have f2 : fr [71, 77] σ (mup s1 71 0 7 (((mkl T i).length + 1 : Nat) : Int)) := fr_mup (fr_sub f1 (fun r hr => by simp at hr ⊢; omega)) (by decide)
      have k2 : ∀ k, k ≠ 7 → (mup s1 71 0 7 (((mkl T i).length + 1 : Nat) : Int)) 71 0 k = σ 71 0 k := fun k hk => by rw [mup_k hk, f1 71 0 k (by decide)]
      have hT2 : TR (mup s1 71 0 7 (((mkl T i).length + 1 : Nat) : Int)) T := fun i' hi' => by
        rw [f2 72 0 _ (by decide), f2 73 0 _ (by decide), f2 73 0 _ (by decide), f2 73 0 _ (by decide)]
        exact hT i' hi'
      have hL2 : RL_ (mup s1 71 0 7 (((mkl T i).length + 1 : Nat) : Int)) (mkl T (i + 1)) := by
        rw [e]
        refine ⟨by rw [mup_s]; simp, fun q hq => ?_⟩
        rw [mup_r (by decide), mup_r (by decide), mup_r (by decide)]
        by_cases hq2 : q < (mkl T i).length
        · rw [List.getD_eq_getElem?_getD, List.getElem?_append_left hq2, ← List.getD_eq_getElem?_getD, ← hL.2 q hq2]
          subst hs1
          simp only [mup_def]
          simp [show ¬ (3 * q = 3 * (mkl T i).length) by omega, show ¬ (3 * q = 3 * (mkl T i).length + 1) by omega, show ¬ (3 * q = 3 * (mkl T i).length + 2) by omega, show ¬ (3 * q + 1 = 3 * (mkl T i).length) by omega, show ¬ (3 * q + 1 = 3 * (mkl T i).length + 2) by omega, show ¬ (3 * q + 2 = 3 * (mkl T i).length) by omega, show ¬ (3 * q + 2 = 3 * (mkl T i).length + 1) by omega, show ¬ (q = (mkl T i).length) by omega]
        · have : q = (mkl T i).length := by simp at hq; omega
          subst this
          rw [List.getD_eq_getElem?_getD, List.getElem?_append_right (Nat.le_refl _), Nat.sub_self]
          subst hs1
          simp [mup_def]
          exact hcd
      obtain ⟨σ', q1, q2, q3, q4⟩ := ih (i + 1) f _ (by omega) (by omega) hT2 hL2
      exact ⟨σ', q1, q2, fr_trans f2 q3, fun k hk => (q4 k hk).trans (k2 k hk)⟩
theorem mkl_tok {σ : mS} {T : Nat → Option tn} (hT : TR σ T) : ∀ i, i ≤ 4 → ∀ t, t ∈ mkl T i → tok t
  | 0, _, t, h => by cases h
  | i + 1, hi, t, h => by
    rw [mkl_s] at h
    rcases List.mem_append.mp h with q | q
    · exact mkl_tok hT i (by omega) t q
    · exact ((hT i (by omega)).2 t (by cases e : T i with
        | none => rw [e] at q; cases q
        | some x => rw [e] at q; simp at q; rw [q])).1
