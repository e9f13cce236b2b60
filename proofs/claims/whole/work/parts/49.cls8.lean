/-! loops once more; the class's takeTurns, its classes -/
theorem lp_up {S O : Type} (L : Nat → Int → S → Option O) (I : Nat → S → Prop) (P : O → Prop) (hi : Nat)
    (hs : ∀ f k s, k < hi → I k s → (∃ s', L (f + 1) (k : Int) s = L f ((k + 1 : Nat) : Int) s' ∧ I (k + 1) s') ∨ ∃ o, L (f + 1) (k : Int) s = some o ∧ P o)
    (he : ∀ f s, I hi s → ∃ o, L (f + 1) (hi : Int) s = some o ∧ P o) :
    ∀ (f k : Nat) (s : S), k ≤ hi → hi - k < f → I k s → ∃ o, L f (k : Int) s = some o ∧ P o := by
  intro f
  induction f with
  | zero => intro k s _ h; exact absurd h (Nat.not_lt_zero _)
  | succ f ih =>
    intro k s hk hf hI
    by_cases e : k = hi
    · subst e; exact he f s hI
    · rcases hs f k s (by omega) hI with ⟨s', e1, hI'⟩ | ⟨o, e1, hP⟩
      · obtain ⟨o, e2, hP⟩ := ih (k + 1) s' (by omega) (by omega) hI'
        exact ⟨o, e1.trans e2, hP⟩
      · exact ⟨o, e1, hP⟩
/-- from 0, with the machine's fuel -/
theorem lp_0 {S O : Type} (L : Nat → Int → S → Option O) (I : Nat → S → Prop) (P : O → Prop) (hi : Nat)
    (hs : ∀ f k s, k < hi → I k s → (∃ s', L (f + 1) (k : Int) s = L f ((k + 1 : Nat) : Int) s' ∧ I (k + 1) s') ∨ ∃ o, L (f + 1) (k : Int) s = some o ∧ P o)
    (he : ∀ f s, I hi s → ∃ o, L (f + 1) (hi : Int) s = some o ∧ P o) {f : Nat} {s : S} (hf : hi < f) (h0 : I 0 s) : ∃ o, L f 0 s = some o ∧ P o :=
  lp_up L I P hi hs he f 0 s (Nat.zero_le _) (by omega) h0
theorem mw_s {k : Nat} (h : k < 2147483647) : mw ((k : Int) + 1) = ((k + 1 : Nat) : Int) := mw_id (by omega) (by omega)
theorem tN (k : Nat) : (k : Int).toNat = k := by omega
theorem mcp_in {σ : mS} {r0 i0 r1 i1 n k : Nat} (h : k < n) : mcp σ r0 i0 0 r1 i1 0 (n : Int) r1 i1 k = σ r0 i0 k := by
  unfold mcp
  rw [if_pos ⟨rfl, rfl⟩]
  have := pk_cpy_in (f := σ r0 i0) (g := σ r1 i1) (sp := (0 : Int).toNat) (dp := (0 : Int).toNat) (n := (n : Int).toNat) (j := k) (Nat.zero_le _) (by rw [tN]; omega)
  rw [this]
  refine congrArg (σ r0 i0) ?_
  show 0 + (k - 0) = k
  omega
theorem mcp_r {σ : mS} {r0 i0 r1 i1 : Nat} {a b c : Int} {r i k : Nat} (h : r ≠ r1 ∨ i ≠ i1) : mcp σ r0 i0 a r1 i1 b c r i k = σ r i k := by
  unfold mcp
  rw [if_neg (fun q => by omega)]
theorem mcp_o {σ : mS} {r0 i0 r1 i1 : Nat} {n : Nat} {k : Nat} (h : n ≤ k) : mcp σ r0 i0 0 r1 i1 0 (n : Int) r1 i1 k = σ r1 i1 k := by
  unfold mcp
  rw [if_pos ⟨rfl, rfl⟩]
  exact pk_cpy_out (Or.inr (by rw [tN]; exact Nat.le_trans (by omega) h))
theorem fr_mcp {R : List Nat} {σ σ' : mS} {r0 i0 r1 i1 : Nat} {a b c : Int} (h : fr R σ σ') (hr : r1 ∈ R) : fr R σ (mcp σ' r0 i0 a r1 i1 b c) := fun r' i' k' h' => by
  have hne : r' ≠ r1 := fun e => h' (by rw [e]; exact hr)
  rw [mcp_r (Or.inl hne)]
  exact h r' i' k' h'
/-- the class's cells bear the told turns -/
def TC (σ : mS) (T : Nat → Option tn) : Prop := ∀ i, i < 4 → (σ 4 0 i = if (T i).isSome then 1 else 0) ∧ ∀ t, T i = some t → tok t ∧ (σ 3 i 0, σ 3 i 1, σ 3 i 2) = t
def CL_ (σ : mS) (l : List tn) : Prop := σ 5 0 1 = (l.length : Int) ∧ ∀ t, t < l.length → (σ 10 t 0, σ 10 t 1, σ 10 t 2) = l.getD t tid
theorem X1_takeTurns_eq {N : Nat} {T : Nat → Option tn} {σ : mS} (hN : 100 ≤ N) (hT : TC σ T) : ∃ σ', f_X1_takeTurns N σ = some σ' ∧ CL_ σ' (mkl T 4) ∧ fr [5, 10] σ σ' ∧ ∀ k, k ≠ 1 → σ' 5 0 k = σ 5 0 k := by
  obtain ⟨o, e, hP⟩ := lp_0 (L := fun f k s => L_X1_takeTurns_7 N f k s) (I := fun k s => CL_ s (mkl T k) ∧ fr [5, 10] σ s ∧ ∀ q, q ≠ 1 → s 5 0 q = σ 5 0 q)
    (P := fun s => CL_ s (mkl T 4) ∧ fr [5, 10] σ s ∧ ∀ q, q ≠ 1 → s 5 0 q = σ 5 0 q) 4 (fun f k s hk hI => by
      obtain ⟨hL, hf, h5⟩ := hI
      have hlen := mkl_len T k
      left
      obtain ⟨hb, ht⟩ := hT k hk
      try dsimp only
      rw [L_X1_takeTurns_7_s, if_neg (by omega), if_pos (by omega), tN, hf 4 0 k (by decide), hb, mw_s (by omega)]
      cases hTi : T k with
      | none =>
        have e : mkl T (k + 1) = mkl T k := by rw [mkl_s, hTi]; simp
        rw [if_pos (by simp)]
        exact ⟨s, rfl, by rw [e]; exact hL, hf, h5⟩
      | some t =>
        have e : mkl T (k + 1) = mkl T k ++ [t] := by rw [mkl_s, hTi]; rfl
        obtain ⟨htok, hcd⟩ := ht t hTi
        rw [if_neg (by simp), hL.1, if_pos (by omega), tN, mw_s (by omega)]
        refine ⟨_, rfl, ?_, fr_mup (fr_mcp hf (by decide)) (by decide), fun q hq => ?_⟩
        · rw [e]
          refine ⟨by rw [mup_s]; simp, fun q hq => ?_⟩
          rw [mup_r (by decide), mup_r (by decide), mup_r (by decide)]
          by_cases hq2 : q < (mkl T k).length
          · rw [List.getD_eq_getElem?_getD, List.getElem?_append_left hq2, ← List.getD_eq_getElem?_getD, ← hL.2 q hq2, mcp_r (Or.inr (by omega)), mcp_r (Or.inr (by omega)), mcp_r (Or.inr (by omega))]
          · have : q = (mkl T k).length := by simp at hq; omega
            subst this
            rw [List.getD_eq_getElem?_getD, List.getElem?_append_right (Nat.le_refl _), Nat.sub_self]
            have x1 := mcp_in (σ := s) (r0 := 3) (i0 := k) (r1 := 10) (i1 := (mkl T k).length) (n := 3) (k := 0) (by decide)
            have x2 := mcp_in (σ := s) (r0 := 3) (i0 := k) (r1 := 10) (i1 := (mkl T k).length) (n := 3) (k := 1) (by decide)
            have x3 := mcp_in (σ := s) (r0 := 3) (i0 := k) (r1 := 10) (i1 := (mkl T k).length) (n := 3) (k := 2) (by decide)
            rw [show ((3 : Nat) : Int) = 3 from rfl] at x1 x2 x3
            rw [x1, x2, x3, hf 3 k 0 (by decide), hf 3 k 1 (by decide), hf 3 k 2 (by decide), hcd]
            rfl
        · rw [mup_k hq, mcp_r (Or.inl (by decide)), h5 q hq]) (fun f s hI => by
      refine ⟨s, ?_, hI⟩
      try dsimp only
      rw [L_X1_takeTurns_7_s, if_pos (by omega)]) (f := N) (s := mup σ 5 0 1 0) (by omega) ⟨⟨by rw [mup_s]; rfl, fun t ht => absurd ht (Nat.not_lt_zero _)⟩, fr_mup fr_rfl (by decide), fun q hq => mup_k hq⟩
  refine ⟨o, ?_, hP⟩
  unfold f_X1_takeTurns
  try dsimp only at e
  rw [e]
  rfl
theorem mkl_tokC {σ : mS} {T : Nat → Option tn} (hT : TC σ T) : ∀ i, i ≤ 4 → ∀ t, t ∈ mkl T i → tok t
  | 0, _, t, h => by cases h
  | i + 1, hi, t, h => by
    rw [mkl_s] at h
    rcases List.mem_append.mp h with q | q
    · exact mkl_tokC hT i (by omega) t q
    · exact ((hT i (by omega)).2 t (by cases e : T i with
        | none => rw [e] at q; cases q
        | some x => rw [e] at q; simp at q; rw [q])).1
theorem CM_of {σ σ0 : mS} {T : Nat → Option tn} (hT : TC σ0 T) (h : CL_ σ (mkl T 4)) : CM σ (mkM T) (mkl T 4).length := by
  refine ⟨h.1, mkl_len T 4, fun t ht => ⟨h.2 t ht, ?_⟩⟩
  refine mkl_tokC hT 4 (Nat.le_refl _) _ ?_
  unfold mkM
  rw [List.getD_eq_getElem?_getD, List.getElem?_eq_getElem ht]
  exact List.getElem_mem ht
