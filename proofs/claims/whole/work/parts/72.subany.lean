/-- a set of numbers is borne by the bits of m -/
def btS (m : Nat) (S : Nat → Prop) : Prop := ∀ c, c < 48 → (m.testBit c = true ↔ S c)
theorem clm_S {S : Nat → Prop} (hS : cSt S) (h0 : S 0) {m c : Nat} {gs : List Nat} (hm : ∀ c, m.testBit c = true → S c) (hg : ∀ g ∈ gs, m.testBit g = true) (hc : S c) : ∀ x, (clm m gs c).testBit x = true → S x := by
  refine dm_S hS (fun h hh => ?_) (fun s hs => ?_) 49 m [0] hm (fun x hx => by rw [List.mem_singleton.mp hx]; exact h0)
  · exact hm h (List.mem_filter.mp hh).2
  · rcases List.mem_append.mp hs with z | z
    · exact hm s (hg s z)
    · rw [List.mem_singleton.mp z]; exact hc
theorem sub_up {S : Nat → Prop} (hS : cSt S) (h0 : S 0) : ∀ k, ∀ e ∈ GTB, 281474976710656 - e.1 ≤ k → (∀ c, e.1.testBit c = true → S c) → ∃ e ∈ GTB, btS e.1 S := by
  intro k
  induction k with
  | zero =>
    intro e he hk _
    exfalso
    have h98 : GTB.all (fun e => Nat.blt e.1 281474976710656) = true := by decide +kernel
    have := List.all_eq_true.mp h98 e he
    have := Nat.le_of_ble_eq_true this
    omega
  | succ k ih =>
    intro e he hk hm
    by_cases q : ∃ c, c < 48 ∧ S c ∧ ¬ e.1.testBit c = true
    · obtain ⟨c, hc, hSc, hno⟩ := q
      have h1 := List.all_eq_true.mp chT_ok e he
      unfold chT at h1
      rw [Bool.and_eq_true] at h1
      have h2 := List.all_eq_true.mp h1.2 c (List.mem_range.mpr hc)
      rw [frc_eq, Bool.or_eq_true] at h2
      rcases h2 with h2 | h2
      · exact absurd h2 hno
      · rw [Bool.and_eq_true, Bool.and_eq_true] at h2
        obtain ⟨⟨h3, h4⟩, h5⟩ := h2
        obtain ⟨e', he', h6⟩ := List.any_eq_true.mp h5
        have h4 := Nat.eq_of_beq_eq_true h4
        have h6 := Nat.eq_of_beq_eq_true h6
        have hK := clm_S hS h0 hm (fun g hg => List.all_eq_true.mp h1.1 g hg) hSc
        refine ih e' he' ?_ (by rw [h6]; exact hK)
        have hle : e.1 ≤ e'.1 := by
          rw [h6, ← h4]
          exact Nat.right_le_or
        have hne : e.1 ≠ e'.1 := fun z => hno (by rw [z, h6]; exact h3)
        omega
    · exact ⟨e, he, fun c hc => ⟨hm c, fun hs => Classical.byContradiction (fun z => q ⟨c, hc, hs, z⟩)⟩⟩
theorem T48_ok : ∀ c ∈ List.range 48, tok (T48 c) := fun c hc => tok_mem.mpr (by
  have h : ∀ c ∈ List.range 48, T48 c ∈ allT := by decide +kernel
  exact h c hc)
theorem T48_tix {t : tn} (h : tok t) : T48 (tix t) = t := by
  unfold T48
  rw [TL_ok, List.getD_eq_getElem?_getD, List.getElem?_eq_getElem (by rw [allT_len]; exact tix_lt h)]
  exact List.getElem_idxOf _
theorem T48_inj {a b : Nat} (ha : a < 48) (hb : b < 48) (h : T48 a = T48 b) : a = b := by
  have key : ∀ a ∈ List.range 48, tix (T48 a) = a := by decide +kernel
  rw [← key a (List.mem_range.mpr ha), ← key b (List.mem_range.mpr hb), h]
/-- the numbers of a group's turns -/
def gS (E : Nat → tn) (n c : Nat) : Prop := c < 48 ∧ ∃ g, g < n ∧ E g = T48 c
theorem sub_any {E : Nat → tn} {n : Nat} (h : GP E n) : ∃ e ∈ GTB, btS e.1 (gS E n) := by
  have hS : cSt (gS E n) := ⟨fun c hc => hc.1, fun a b ha hb => by
    obtain ⟨a1, g, hg, eg⟩ := ha
    obtain ⟨b1, k, hk, ek⟩ := hb
    obtain ⟨m1, m2⟩ := mN_ok a (List.mem_range.mpr a1) b (List.mem_range.mpr b1)
    obtain ⟨j, hj, ej⟩ := h.2.2.2.2 g k hg hk
    exact ⟨m2, j, hj, by rw [ej, eg, ek, m1]⟩⟩
  have h0 : gS E n 0 := ⟨by decide, 0, h.1, by rw [h.2.1]; rfl⟩
  have hf : ((1 : Nat), ([] : List Nat)) ∈ GTB := by
    have : GTB.any (fun e => Nat.beq e.1 1 && e.2.isEmpty) = true := by decide +kernel
    obtain ⟨⟨a, b⟩, he, hq⟩ := List.any_eq_true.mp this
    rw [Bool.and_eq_true] at hq
    have q1 := Nat.eq_of_beq_eq_true hq.1
    have q2 := List.isEmpty_iff.mp hq.2
    try dsimp only at q1 q2
    subst q1 q2
    exact he
  refine sub_up hS h0 _ _ hf (Nat.le_refl _) (fun c hc => ?_)
  have : c = 0 := by
    rcases Nat.eq_zero_or_pos c with z | z
    · exact z
    · exfalso
      have : (1 : Nat).testBit c = false := Nat.testBit_lt_two_pow (Nat.one_lt_two_pow (by omega))
      rw [this] at hc
      exact absurd hc (by decide)
  rw [this]
  exact h0
