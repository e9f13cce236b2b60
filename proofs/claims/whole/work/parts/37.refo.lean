/-! how often an element must be done; the reference's classes -/
def git (E : Nat → tn) (n g : Nat) : Nat → Nat → Nat
  | 0, a => a
  | i + 1, a => git E n g i (gm E n a g)
theorem git_E {E : Nat → tn} {n g : Nat} (H : GP E n) (hg : g < n) : ∀ (i a : Nat), a < n → git E n g i a < n ∧ E (git E n g i a) = tco (E a) (tpw (E g) i)
  | 0, a, ha => ⟨ha, (tco_r (H.2.2.1 a ha)).symm⟩
  | i + 1, a, ha => by
    obtain ⟨h1, e1⟩ := gm_ok H ha hg
    obtain ⟨h2, e2⟩ := git_E H hg i _ h1
    refine ⟨h2, ?_⟩
    show E (git E n g i (gm E n a g)) = _
    have hp : ∀ k, tco (E g) (tpw (E g) k) = tpw (E g) (k + 1) := by
      intro k
      induction k with
      | zero => rw [show tpw (E g) 0 = tid from rfl, tco_r (H.2.2.1 g hg)]; rfl
      | succ k ihk =>
        show tco (E g) (tco (tpw (E g) k) (E g)) = tco (tpw (E g) (k + 1)) (E g)
        rw [← tco_as (H.2.2.1 g hg) (tpw_ok (H.2.2.1 g hg) k), ihk]
    rw [e2, e1, tco_as (H.2.2.1 a ha) (H.2.2.1 g hg), hp]
theorem git_11 {E : Nat → tn} {n g : Nat} (H : GP E n) (hg : g < n) : git E n g 11 g = 0 := by
  obtain ⟨h1, e1⟩ := git_E H hg 11 g hg
  exact H.2.2.2.1 _ 0 h1 H.1 (by rw [e1, H.2.1]; exact tiv_r (H.2.2.1 g hg))
def gors (E : Nat → tn) (n g : Nat) : Nat → Nat → Nat → Nat
  | 0, k, _ => k
  | j + 1, k, a => if a = 0 then k else gors E n g j (k + 1) (gm E n a g)
/-- how often g must be done to leave all -/
def gor (E : Nat → tn) (n g : Nat) : Nat := gors E n g 12 1 g
theorem gors_s (E : Nat → tn) (n g j k a : Nat) : gors E n g (j + 1) k a = if a = 0 then k else gors E n g j (k + 1) (gm E n a g) := rfl
theorem gors_le (E : Nat → tn) (n g : Nat) : ∀ j k a, k ≤ gors E n g j k a ∧ gors E n g j k a ≤ k + j
  | 0, k, _ => ⟨Nat.le_refl _, Nat.le_refl _⟩
  | j + 1, k, a => by
    rw [gors_s]
    split
    · omega
    · have := gors_le E n g j (k + 1) (gm E n a g)
      omega
theorem X12_order_lp {N : Nat} {σ : mS} {E : Nat → tn} {n g : Nat} (hN : 100 ≤ N) (H : RG σ E n) (hg : g < n) : ∀ (j k a f : Nat), a < n → (∃ i, i < j ∧ git E n g i a = 0) → j < f → k + j < 100 → L_X12_order_4 N f (g : Int) (k : Int) (a : Int) σ = some ((gors E n g j k a : Int), σ) := by
  intro j
  induction j with
  | zero => intro k a f _ h; obtain ⟨i, hi, -⟩ := h; exact absurd hi (Nat.not_lt_zero _)
  | succ j ih =>
    intro k a f ha h hf hk
    obtain ⟨f, rfl⟩ : ∃ f', f = f' + 1 := ⟨f - 1, by omega⟩
    rw [L_X12_order_4_s, gors_s]
    by_cases e : a = 0
    · subst e
      rw [if_pos (show ((0 : Nat) : Int) = 0 from rfl), if_pos rfl]
    · rw [if_neg (by omega), if_neg e, X12_product_eq hN H ha hg, Option.bind_some]
      dsimp only
      rw [show mw ((k : Int) + 1) = ((k + 1 : Nat) : Int) from mw_id (by omega) (by omega)]
      refine ih (k + 1) _ f (gm_ok H.2.2 ha hg).1 ?_ (by omega) (by omega)
      obtain ⟨i, hi, ei⟩ := h
      match i, hi, ei with
      | 0, _, ei => exact absurd ei e
      | i + 1, hi, ei => exact ⟨i, by omega, ei⟩
theorem X12_order_eq {N : Nat} {σ : mS} {E : Nat → tn} {n g : Nat} (hN : 100 ≤ N) (H : RG σ E n) (hg : g < n) : f_X12_order N (g : Int) σ = some ((gor E n g : Int), σ) := by
  unfold f_X12_order
  rw [show (1 : Int) = ((1 : Nat) : Int) from rfl, X12_order_lp hN H hg 12 1 g N hg ⟨11, by omega, git_11 H.2.2 hg⟩ (by omega) (by omega)]
  rfl
/-- f, g and f backwards, one behind the other -/
def gcj (E : Nat → tn) (n f g : Nat) : Nat := gm E n (gm E n f g) (gv E n f)
theorem gcj_lt {E : Nat → tn} {n f g : Nat} (H : GP E n) (hf : f < n) (hg : g < n) : gcj E n f g < n := (gm_ok H (gm_ok H hf hg).1 (gv_ok H hf).1).1
theorem gv_0 {E : Nat → tn} {n : Nat} (H : GP E n) : gv E n 0 = 0 := by
  have h := gm_vr H H.1
  rw [gm_l H (gv_ok H H.1).1] at h
  exact h
theorem gcj_0 {E : Nat → tn} {n g : Nat} (H : GP E n) (hg : g < n) : gcj E n 0 g = g := by
  unfold gcj
  rw [gm_l H hg, gv_0 H, gm_r H hg]
theorem gv_m {E : Nat → tn} {n a b : Nat} (H : GP E n) (ha : a < n) (hb : b < n) : gv E n (gm E n a b) = gm E n (gv E n b) (gv E n a) := by
  have va := (gv_ok H ha).1
  have vb := (gv_ok H hb).1
  have ab := (gm_ok H ha hb).1
  have bb := (gm_ok H vb va).1
  refine gm_cl H ab (gv_ok H ab).1 bb ?_
  rw [gm_vr H ab, gm_as H ha hb bb, ← gm_as H hb vb va, gm_vr H hb, gm_l H va, gm_vr H ha]
theorem gv_v {E : Nat → tn} {n a : Nat} (H : GP E n) (ha : a < n) : gv E n (gv E n a) = a := by
  have va := (gv_ok H ha).1
  refine gm_cl H va (gv_ok H va).1 ha ?_
  rw [gm_vr H va, gm_vl H ha]
theorem gcj_m {E : Nat → tn} {n f f' g : Nat} (H : GP E n) (hf : f < n) (hf' : f' < n) (hg : g < n) : gcj E n f (gcj E n f' g) = gcj E n (gm E n f f') g := by
  have v := (gv_ok H hf).1
  have v' := (gv_ok H hf').1
  have a1 := (gm_ok H hf' hg).1
  have a2 := (gm_ok H hf hf').1
  have a3 := (gm_ok H hf a1).1
  unfold gcj
  rw [gv_m H hf hf', gm_as H hf hf' hg, ← gm_as H hf a1 v', gm_as H a3 v' v]
theorem gcj_b {E : Nat → tn} {n f g : Nat} (H : GP E n) (hf : f < n) (hg : g < n) : gcj E n (gv E n f) (gcj E n f g) = g := by
  rw [gcj_m H (gv_ok H hf).1 hf hg, gm_vl H hf, gcj_0 H hg]
