/-! the class's classes -/
/-- the class bears table and backs -/
def CU (σ : mS) (E : Nat → tn) (n : Nat) : Prop := CT σ E n ∧ ∀ g, g < n → σ 17 0 g = (gv E n g : Int)
theorem CU_fr {σ σ' : mS} {E : Nat → tn} {n : Nat} {R : List Nat} (h : CU σ E n) (hf : fr R σ σ') (h5 : 5 ∉ R) (h16 : 16 ∉ R) (h17 : 17 ∉ R) : CU σ' E n := ⟨CT_fr h.1 hf h5 h16, fun g hg => by rw [hf 17 0 g h17]; exact h.2 g hg⟩
/-- how many of the first i elements f make something of g that is new: members are counted once -/
theorem X1_class_lp {N : Nat} {E : Nat → tn} {n g : Nat} {c : Int} (hg : g < n) : ∀ (j f0 fu : Nat) (mem : Nat) (σ : mS), f0 + j = n → j < fu → mem ≤ f0 → CU σ E n → σ 5 0 2 = c → c ≠ -1 → (∀ k, k < n → σ 19 0 k = -1 ∨ σ 19 0 k = c ∨ cjb E n g k = false) →
    ∃ (σ' : mS) (mem' : Nat), L_X1_fillClass_4 N fu (g : Int) (mem : Int) (f0 : Int) σ = some ((mem' : Int), σ') ∧ mem' ≤ n ∧ fr [19] σ σ' ∧ (∀ f, f0 ≤ f → f < n → σ' 19 0 (gcj E n f g) = c) ∧ ∀ k, (∀ f, f0 ≤ f → f < n → gcj E n f g ≠ k) → σ' 19 0 k = σ 19 0 k := by
  intro j
  induction j with
  | zero =>
    intro f0 fu mem σ h1 h2 hm H hc hc1 hk
    obtain ⟨fu, rfl⟩ : ∃ f', fu = f' + 1 := ⟨fu - 1, by omega⟩
    have hn := H.1.1
    rw [L_X1_fillClass_4_s, if_pos (by omega)]
    exact ⟨σ, mem, rfl, by omega, fr_rfl, fun f q1 q2 => by omega, fun k _ => rfl⟩
  | succ j ih =>
    intro f0 fu mem σ h1 h2 hm H hc hc1 hk
    obtain ⟨fu, rfl⟩ : ∃ f', fu = f' + 1 := ⟨fu - 1, by omega⟩
    have hn := H.1.1
    have h48 := CT_48 H.1
    have hG := H.1.2.1
    have hf0 : f0 < n := by omega
    have a1 := (gm_ok hG hf0 hg).1
    have a2 := (gv_ok hG hf0).1
    have a3 := gcj_lt hG hf0 hg
    have t1 : σ 16 f0 g = (gm E n f0 g : Int) := H.1.2.2 f0 hf0 g hg
    have t2 : σ 17 0 f0 = (gv E n f0 : Int) := H.2 f0 hf0
    have t3 : σ 16 (gm E n f0 g) (gv E n f0) = (gcj E n f0 g : Int) := H.1.2.2 _ a1 _ a2
    have hcj : cjb E n g (gcj E n f0 g) = true := cjb_ok.mpr ⟨f0, hf0, rfl⟩
    rw [L_X1_fillClass_4_s, if_neg (by omega), show (f0 : Int).toNat = f0 from by omega, show (g : Int).toNat = g from by omega, t1, t2, show ((gm E n f0 g : Nat) : Int).toNat = gm E n f0 g from by omega, show ((gv E n f0 : Nat) : Int).toNat = gv E n f0 from by omega, t3, show ((gcj E n f0 g : Nat) : Int).toNat = gcj E n f0 g from by omega, if_pos (by omega), show mw ((f0 : Int) + 1) = ((f0 + 1 : Nat) : Int) from mw_id (by omega) (by omega), show mw ((mem : Int) + 1) = ((mem + 1 : Nat) : Int) from mw_id (by omega) (by omega), hc]
    by_cases e : σ 19 0 (gcj E n f0 g) = -1
    · rw [if_pos e, if_pos (by omega)]
      have ffr : fr [19] σ (mup σ 19 0 (gcj E n f0 g) c) := fr_mup fr_rfl (by decide)
      obtain ⟨σ', m', r1, r2, r3, r4, r5⟩ := ih (f0 + 1) fu (mem + 1) (mup σ 19 0 (gcj E n f0 g) c) (by omega) (by omega) (by omega) (CU_fr H ffr (by decide) (by decide) (by decide)) (by rw [ffr 5 0 2 (by decide)]; exact hc) hc1 (fun k hk' => by
        by_cases ek : k = gcj E n f0 g
        · subst ek; rw [mup_s]; exact Or.inr (Or.inl rfl)
        · rw [mup_k ek]; exact hk k hk')
      refine ⟨σ', m', r1, r2, fr_trans ffr r3, fun f q1 q2 => ?_, fun k hk' => ?_⟩
      · by_cases ex : ∃ f', f0 + 1 ≤ f' ∧ f' < n ∧ gcj E n f' g = gcj E n f g
        · obtain ⟨f', p1, p2, p3⟩ := ex
          rw [← p3]; exact r4 f' p1 p2
        · have ef : f = f0 := by
            by_cases e2 : f = f0
            · exact e2
            · exact absurd ⟨f, by omega, q2, rfl⟩ ex
          subst ef
          rw [r5 _ (fun f' p1 p2 p3 => ex ⟨f', p1, p2, p3⟩), mup_s]
      · rw [r5 k (fun f p1 p2 => hk' f (by omega) p2), mup_k (fun q => hk' f0 (Nat.le_refl _) hf0 q.symm)]
    · rw [if_neg e]
      have ec : σ 19 0 (gcj E n f0 g) = c := by
        rcases hk _ a3 with q | q | q
        · exact absurd q e
        · exact q
        · rw [hcj] at q; cases q
      obtain ⟨σ', m', r1, r2, r3, r4, r5⟩ := ih (f0 + 1) fu mem σ (by omega) (by omega) (by omega) H hc hc1 hk
      refine ⟨σ', m', r1, r2, r3, fun f q1 q2 => ?_, fun k hk' => r5 k (fun f p1 p2 => hk' f (by omega) p2)⟩
      by_cases ex : ∃ f', f0 + 1 ≤ f' ∧ f' < n ∧ gcj E n f' g = gcj E n f g
      · obtain ⟨f', p1, p2, p3⟩ := ex
        rw [← p3]; exact r4 f' p1 p2
      · have ef : f = f0 := by
          by_cases e2 : f = f0
          · exact e2
          · exact absurd ⟨f, by omega, q2, rfl⟩ ex
        subst ef
        rw [r5 _ (fun f' p1 p2 p3 => ex ⟨f', p1, p2, p3⟩)]
        exact ec
