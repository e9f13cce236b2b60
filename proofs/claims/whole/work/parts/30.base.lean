/-! LEVEL 3: the functions f_, L_ (part 15) as mathematics. Loops, numbers, stores. -/
theorem wh_lp {S O : Type} (L : Nat → S → Option O) (I : S → Prop) (P : O → Prop) (μ : S → Nat)
    (hs : ∀ n s, I s → (∃ s', L (n + 1) s = L n s' ∧ I s' ∧ μ s' < μ s) ∨ (∃ o, L (n + 1) s = some o ∧ P o)) :
    ∀ (n : Nat) (s : S), I s → μ s < n → ∃ o, L n s = some o ∧ P o := by
  intro n
  induction n with
  | zero => intro s _ h; exact absurd h (Nat.not_lt_zero _)
  | succ n ih =>
    intro s hI hm
    rcases hs n s hI with ⟨s', e, hI', hl⟩ | ⟨o, e, hP⟩
    · obtain ⟨o, e2, hP⟩ := ih s' hI' (by omega)
      exact ⟨o, e.trans e2, hP⟩
    · exact ⟨o, e, hP⟩
theorem for_up {S O : Type} (L : Nat → Int → S → Option O) (I : Int → S → Prop) (P : O → Prop) (hi : Int)
    (hs : ∀ n k s, k < hi → I k s → (∃ s', L (n + 1) k s = L n (k + 1) s' ∧ I (k + 1) s') ∨ (∃ o, L (n + 1) k s = some o ∧ P o))
    (he : ∀ n s, I hi s → ∃ o, L (n + 1) hi s = some o ∧ P o) :
    ∀ (n : Nat) (k : Int) (s : S), k ≤ hi → (hi - k).toNat < n → I k s → ∃ o, L n k s = some o ∧ P o := by
  intro n
  induction n with
  | zero => intro k s _ h; exact absurd h (Nat.not_lt_zero _)
  | succ n ih =>
    intro k s hk hm hI
    by_cases e : k = hi
    · subst e; exact he n s hI
    · rcases hs n k s (by omega) hI with ⟨s', e1, hI'⟩ | ⟨o, e1, hP⟩
      · obtain ⟨o, e2, hP⟩ := ih (k + 1) s' (by omega) (by omega) hI'
        exact ⟨o, e1.trans e2, hP⟩
      · exact ⟨o, e1, hP⟩
/-- the stores agree but in these regions -/
def fr (R : List Nat) (σ σ' : mS) : Prop := ∀ r i k, r ∉ R → σ' r i k = σ r i k
theorem fr_rfl {R : List Nat} {σ : mS} : fr R σ σ := fun _ _ _ _ => rfl
theorem fr_trans {R : List Nat} {a b c : mS} (h1 : fr R a b) (h2 : fr R b c) : fr R a c := fun r i k h => (h2 r i k h).trans (h1 r i k h)
theorem fr_sub {R R' : List Nat} {a b : mS} (h : fr R a b) (hs : ∀ r, r ∈ R → r ∈ R') : fr R' a b := fun r i k hr => h r i k (fun q => hr (hs r q))
theorem fr_mup {R : List Nat} {σ σ' : mS} {r i k : Nat} {z : Int} (h : fr R σ σ') (hr : r ∈ R) : fr R σ (mup σ' r i k z) := fun r' i' k' h' => by
  rw [mup_def, if_neg]
  · exact h r' i' k' h'
  · rintro ⟨e, -⟩
    exact h' (e ▸ hr)
theorem mup_s (σ : mS) (r i k : Nat) (z : Int) : mup σ r i k z r i k = z := by rw [mup_def, if_pos ⟨rfl, rfl, rfl⟩]
theorem mup_r {σ : mS} {r i k : Nat} {z : Int} {r' i' k' : Nat} (h : r' ≠ r) : mup σ r i k z r' i' k' = σ r' i' k' := by rw [mup_def, if_neg (fun q => h q.1)]
theorem mup_i {σ : mS} {r i k : Nat} {z : Int} {r' i' k' : Nat} (h : i' ≠ i) : mup σ r i k z r' i' k' = σ r' i' k' := by rw [mup_def, if_neg (fun q => h q.2.1)]
theorem mup_k {σ : mS} {r i k : Nat} {z : Int} {r' i' k' : Nat} (h : k' ≠ k) : mup σ r i k z r' i' k' = σ r' i' k' := by rw [mup_def, if_neg (fun q => h q.2.2)]
-- numbers
theorem o_div_eq {a b : Int} (ha : 0 ≤ a) (ha2 : a < 2147483648) (hb : 0 < b) (hb2 : b < 2147483648) : o_div a b = a / b := by
  unfold o_div
  have h1 : (Int32.ofInt a).toInt = a := Int32.toInt_ofInt_of_le (by omega) (by omega)
  have h2 : (Int32.ofInt b).toInt = b := Int32.toInt_ofInt_of_le (by omega) (by omega)
  rw [Int32.toInt_div, h1, h2, Int.tdiv_eq_ediv_of_nonneg ha]
  have h3 : 0 ≤ a / b := Int.ediv_nonneg ha (by omega)
  have h4 : a / b ≤ a := Int.ediv_le_self _ ha
  exact Int.bmod_eq_of_le (by omega) (by omega)
theorem o_rem_gen {a b : Int} (ha : mw a = a) (hb : 0 < b) (hb2 : b < 2147483648) : o_rem a b = a.tmod b := by
  unfold o_rem
  have h1 : (Int32.ofInt a).toInt = a := ha
  have h2 : (Int32.ofInt b).toInt = b := Int32.toInt_ofInt_of_le (by omega) (by omega)
  have hr := mw_rg ha
  have hd : (Int32.ofInt a / Int32.ofInt b).toInt = a.tdiv b := by
    rw [Int32.toInt_div, h1, h2]
    have h3 := Int.natAbs_tdiv a b
    have h4 : (a.tdiv b).natAbs ≤ a.natAbs := by rw [h3]; exact Nat.div_le_self _ _
    by_cases e : a.tdiv b = 2147483648
    · exfalso
      rw [e] at h4
      have : a = -2147483648 := by omega
      subst this
      by_cases hb1 : b = 1
      · subst hb1; revert e; decide
      · have h5 : ((-2147483648 : Int).tdiv b).natAbs = 2147483648 / b.natAbs := by rw [h3]; rfl
        rw [e] at h5
        have h6 : 2 ≤ b.natAbs := by omega
        have h7 : 2147483648 / b.natAbs ≤ 2147483648 / 2 := Nat.div_le_div_left h6 (by omega)
        omega
    · exact Int.bmod_eq_of_le (by omega) (by omega)
  rw [Int32.toInt_sub, Int32.toInt_mul, h1, h2, hd]
  have h5 : a.tdiv b * b = a - a.tmod b := by
    have := Int.tmod_add_mul_tdiv a b
    have h6 : b * a.tdiv b = a.tdiv b * b := Int.mul_comm _ _
    omega
  rw [h5]
  have h7 : a.tmod b < b := Int.tmod_lt_of_pos _ hb
  have h8 : -b < a.tmod b := by
    have := Int.lt_tmod_of_pos a hb
    omega
  have h9 : (a - a.tmod b).bmod (2 ^ 32) = a - a.tmod b ∨ True := Or.inr trivial
  rw [Int.sub_bmod_bmod]
  have e2 : a - (a - a.tmod b) = a.tmod b := by omega
  rw [e2]
  exact Int.bmod_eq_of_le (by omega) (by omega)
theorem o_rem_eq {a b : Int} (ha : 0 ≤ a) (ha2 : a < 2147483648) (hb : 0 < b) (hb2 : b < 2147483648) : o_rem a b = a % b := by
  rw [o_rem_gen (mw_id (by omega) (by omega)) hb hb2, Int.tmod_eq_emod_of_nonneg ha]
