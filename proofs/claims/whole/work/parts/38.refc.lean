/-! the reference's classes -/
theorem RG_fr {σ σ' : mS} {E : Nat → tn} {n : Nat} {R : List Nat} (h : RG σ E n) (hf : fr R σ σ') (h1 : 71 ∉ R) (h2 : 74 ∉ R) : RG σ' E n := by
  refine ⟨by rw [hf 71 0 6 h1]; exact h.1, fun k hk => ?_, h.2.2⟩
  unfold elR
  rw [hf 74 0 _ h2, hf 74 0 _ h2, hf 74 0 _ h2]
  exact h.2.1 k hk
theorem X12_finds_in {N : Nat} {E : Nat → tn} {n g : Nat} {c : Int} (hN : 100 ≤ N) (hg : g < n) : ∀ (j f0 fu : Nat) (σ : mS), f0 + j = n → j < fu → RG σ E n → σ 71 0 10 = c →
    ∃ σ', L_X12_finds_53 N fu (g : Int) (f0 : Int) σ = some σ' ∧ fr [78] σ σ' ∧ (∀ f, f0 ≤ f → f < n → σ' 78 0 (gcj E n f g) = c) ∧ ∀ k, (∀ f, f0 ≤ f → f < n → gcj E n f g ≠ k) → σ' 78 0 k = σ 78 0 k := by
  intro j
  induction j with
  | zero =>
    intro f0 fu σ h1 h2 H hc
    obtain ⟨fu, rfl⟩ : ∃ f', fu = f' + 1 := ⟨fu - 1, by omega⟩
    have hn := H.1
    rw [L_X12_finds_53_s, if_pos (by omega)]
    exact ⟨σ, rfl, fr_rfl, fun f q1 q2 => by omega, fun k _ => rfl⟩
  | succ j ih =>
    intro f0 fu σ h1 h2 H hc
    obtain ⟨fu, rfl⟩ : ∃ f', fu = f' + 1 := ⟨fu - 1, by omega⟩
    have hn := H.1
    have h48 := RG_48 H
    have hf0 : f0 < n := by omega
    have a1 := (gm_ok H.2.2 hf0 hg).1
    have a2 := (gv_ok H.2.2 hf0).1
    have a3 := gcj_lt H.2.2 hf0 hg
    rw [L_X12_finds_53_s, if_neg (by omega), X12_product_eq hN H hf0 hg, Option.bind_some]
    dsimp only
    rw [X12_back_eq hN H hf0, Option.bind_some]
    dsimp only
    rw [X12_product_eq hN H a1 a2, Option.bind_some]
    dsimp only
    rw [show gm E n (gm E n f0 g) (gv E n f0) = gcj E n f0 g from rfl, if_pos (by omega), hc, show mw ((f0 : Int) + 1) = ((f0 + 1 : Nat) : Int) from mw_id (by omega) (by omega), show ((gcj E n f0 g : Nat) : Int).toNat = gcj E n f0 g from by omega]
    have ffr : fr [78] σ (mup σ 78 0 (gcj E n f0 g) c) := fr_mup fr_rfl (by decide)
    obtain ⟨σ', r1, r2, r3, r4⟩ := ih (f0 + 1) fu (mup σ 78 0 (gcj E n f0 g) c) (by omega) (by omega) (RG_fr H ffr (by decide) (by decide)) (by rw [ffr 71 0 10 (by decide)]; exact hc)
    refine ⟨σ', r1, fr_trans ffr r2, fun f q1 q2 => ?_, fun k hk => ?_⟩
    · by_cases e : ∃ f', f0 + 1 ≤ f' ∧ f' < n ∧ gcj E n f' g = gcj E n f g
      · obtain ⟨f', p1, p2, p3⟩ := e
        rw [← p3]; exact r3 f' p1 p2
      · have ef : f = f0 := by
          by_cases e2 : f = f0
          · exact e2
          · exact absurd ⟨f, by omega, q2, rfl⟩ e
        subst ef
        rw [r4 _ (fun f' p1 p2 p3 => e ⟨f', p1, p2, p3⟩), mup_s]
    · rw [r4 k (fun f p1 p2 => hk f (by omega) p2), mup_k (fun q => hk f0 (Nat.le_refl _) hf0 q.symm)]
/-- classes as they are numbered: behind the first g elements, and how many -/
def cjb (E : Nat → tn) (n g k : Nat) : Bool := (List.range n).any fun f => gcj E n f g == k
theorem cjb_ok {E : Nat → tn} {n g k : Nat} : cjb E n g k = true ↔ ∃ f, f < n ∧ gcj E n f g = k := by
  unfold cjb
  rw [List.any_eq_true]
  constructor
  · rintro ⟨f, h1, h2⟩; exact ⟨f, List.mem_range.mp h1, eq_of_beq h2⟩
  · rintro ⟨f, h1, h2⟩; exact ⟨f, List.mem_range.mpr h1, by rw [h2]; exact beq_self_eq_true k⟩
def clo (E : Nat → tn) (n : Nat) : Nat → (Nat → Int) × Nat
  | 0 => (fun _ => -1, 0)
  | g + 1 => if (clo E n g).1 g = -1 then (fun k => if cjb E n g k = true then ((clo E n g).2 : Int) else (clo E n g).1 k, (clo E n g).2 + 1) else clo E n g
theorem clo_s (E : Nat → tn) (n g : Nat) : clo E n (g + 1) = if (clo E n g).1 g = -1 then (fun k => if cjb E n g k = true then ((clo E n g).2 : Int) else (clo E n g).1 k, (clo E n g).2 + 1) else clo E n g := rfl
theorem clo_le (E : Nat → tn) (n : Nat) : ∀ g, (clo E n g).2 ≤ g
  | 0 => Nat.le_refl _
  | g + 1 => by
    rw [clo_s]
    have := clo_le E n g
    split
    · show (clo E n g).2 + 1 ≤ g + 1; omega
    · omega
theorem X12_finds_out {N : Nat} {E : Nat → tn} {n : Nat} (hN : 100 ≤ N) : ∀ (j g fu : Nat) (σ : mS), g + j = n → j < fu → RG σ E n → σ 71 0 10 = ((clo E n g).2 : Int) → (∀ k, k < n → σ 78 0 k = (clo E n g).1 k) →
    ∃ σ', L_X12_finds_30 N fu (g : Int) σ = some σ' ∧ fr [71, 78] σ σ' ∧ (∀ k, k ≠ 10 → σ' 71 0 k = σ 71 0 k) ∧ σ' 71 0 10 = ((clo E n n).2 : Int) ∧ ∀ k, k < n → σ' 78 0 k = (clo E n n).1 k := by
  intro j
  induction j with
  | zero =>
    intro g fu σ h1 h2 H hc hk
    obtain ⟨fu, rfl⟩ : ∃ f', fu = f' + 1 := ⟨fu - 1, by omega⟩
    have hn := H.1
    have e : g = n := by omega
    subst e
    rw [L_X12_finds_30_s, if_pos (by omega)]
    exact ⟨σ, rfl, fr_rfl, fun _ _ => rfl, hc, hk⟩
  | succ j ih =>
    intro g fu σ h1 h2 H hc hk
    obtain ⟨fu, rfl⟩ : ∃ f', fu = f' + 1 := ⟨fu - 1, by omega⟩
    have hn := H.1
    have h48 := RG_48 H
    have hg : g < n := by omega
    have hle := clo_le E n g
    rw [L_X12_finds_30_s, if_neg (by omega), if_pos (by omega), show (g : Int).toNat = g from by omega, hk g hg, show mw ((g : Int) + 1) = ((g + 1 : Nat) : Int) from mw_id (by omega) (by omega)]
    by_cases e : (clo E n g).1 g = -1
    · rw [if_pos e]
      obtain ⟨s1, r1, r2, r3, r4⟩ := X12_finds_in hN hg n 0 N σ (by omega) (by omega) H hc
      rw [show (0 : Int) = ((0 : Nat) : Int) from rfl, r1, Option.bind_some, r2 71 0 10 (by decide), hc, show mw (((clo E n g).2 : Int) + 1) = (((clo E n g).2 + 1 : Nat) : Int) from mw_id (by omega) (by omega)]
      have f1 : fr [71, 78] σ (mup s1 71 0 10 (((clo E n g).2 + 1 : Nat) : Int)) := fr_mup (fr_sub r2 (fun r hr => by simp at hr ⊢; omega)) (by decide)
      have k1 : ∀ k, k ≠ 10 → (mup s1 71 0 10 (((clo E n g).2 + 1 : Nat) : Int)) 71 0 k = σ 71 0 k := fun k hk => by rw [mup_k hk, r2 71 0 k (by decide)]
      have H1 : RG (mup s1 71 0 10 (((clo E n g).2 + 1 : Nat) : Int)) E n := by
        refine ⟨by rw [k1 6 (by decide)]; exact hn, fun k hk => ?_, H.2.2⟩
        unfold elR
        rw [f1 74 0 _ (by decide), f1 74 0 _ (by decide), f1 74 0 _ (by decide)]
        exact H.2.1 k hk
      have e2 : clo E n (g + 1) = (fun k => if cjb E n g k = true then ((clo E n g).2 : Int) else (clo E n g).1 k, (clo E n g).2 + 1) := by rw [clo_s, if_pos e]
      obtain ⟨σ', q1, q2, q3, q4, q5⟩ := ih (g + 1) fu _ (by omega) (by omega) H1 (by rw [mup_s, e2]) (fun k hk' => by
        rw [mup_r (by decide), e2]
        dsimp only
        by_cases hb : cjb E n g k = true
        · rw [if_pos hb]
          obtain ⟨f, p1, p2⟩ := cjb_ok.mp hb
          rw [← p2]; exact r3 f (Nat.zero_le _) p1
        · rw [if_neg hb, r4 k (fun f _ p1 p2 => hb (cjb_ok.mpr ⟨f, p1, p2⟩))]
          exact hk k hk')
      exact ⟨σ', q1, fr_trans f1 q2, fun k hk => (q3 k hk).trans (k1 k hk), q4, q5⟩
    · rw [if_neg e]
      have e2 : clo E n (g + 1) = clo E n g := by rw [clo_s, if_neg e]
      exact ih (g + 1) fu σ (by omega) (by omega) H (by rw [e2]; exact hc) (fun k hk' => by rw [e2]; exact hk k hk')
