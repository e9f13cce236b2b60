/-! turns of three letters, and lists of them that are closed: pure -/
abbrev tn : Type := Int × Int × Int
def cok (c : Int) : Prop := c = 1 ∨ c = 2 ∨ c = 3 ∨ c = -1 ∨ c = -2 ∨ c = -3
def tok (t : tn) : Prop := cok t.1 ∧ cok t.2.1 ∧ cok t.2.2 ∧ t.1.natAbs ≠ t.2.1.natAbs ∧ t.1.natAbs ≠ t.2.2.natAbs ∧ t.2.1.natAbs ≠ t.2.2.natAbs
def tid : tn := (1, 2, 3)
/-- the code to which a code is led -/
def cth (c : Int) (b : tn) : Int := if c = 1 then b.1 else if c = 2 then b.2.1 else if c = 3 then b.2.2 else if c = -1 then -b.1 else if c = -2 then -b.2.1 else -b.2.2
def tco (a b : tn) : tn := (cth a.1 b, cth a.2.1 b, cth a.2.2 b)
def cds : List Int := [1, 2, 3, -1, -2, -3]
def allT : List tn := (cds.flatMap fun a => cds.flatMap fun b => cds.map fun c => (a, b, c)).filter fun t => decide (t.1.natAbs ≠ t.2.1.natAbs) && decide (t.1.natAbs ≠ t.2.2.natAbs) && decide (t.2.1.natAbs ≠ t.2.2.natAbs)
theorem cok_mem {c : Int} : cok c ↔ c ∈ cds := by
  unfold cok cds
  simp
theorem tok_mem {t : tn} : tok t ↔ t ∈ allT := by
  obtain ⟨a, b, c⟩ := t
  unfold tok allT
  rw [List.mem_filter, cok_mem, cok_mem, cok_mem]
  simp only [List.mem_flatMap, List.mem_map, Bool.and_eq_true, decide_eq_true_eq]
  constructor
  · rintro ⟨h1, h2, h3, h4, h5, h6⟩
    exact ⟨⟨a, h1, b, h2, c, h3, rfl⟩, ⟨h4, h5⟩, h6⟩
  · rintro ⟨⟨a', h1, b', h2, c', h3, e⟩, ⟨h4, h5⟩, h6⟩
    cases e
    exact ⟨h1, h2, h3, h4, h5, h6⟩
theorem allT_len : allT.length = 48 := by decide +kernel
theorem tid_ok : tok tid := tok_mem.mpr (by decide +kernel)
theorem tco_mem : ∀ a ∈ allT, ∀ b ∈ allT, tco a b ∈ allT := by decide +kernel
theorem tco_ok {a b : tn} (ha : tok a) (hb : tok b) : tok (tco a b) := tok_mem.mpr (tco_mem a (tok_mem.mp ha) b (tok_mem.mp hb))
theorem cth_neg {c : Int} (h : cok c) (b : tn) : cth (-c) b = -cth c b := by
  rcases h with rfl | rfl | rfl | rfl | rfl | rfl <;> simp [cth]
theorem cth_cok {c : Int} {b : tn} (h : cok c) (hb : tok b) : cok (cth c b) := by
  have hn : ∀ x : Int, cok x → cok (-x) := fun x hx => by rcases hx with rfl | rfl | rfl | rfl | rfl | rfl <;> simp [cok]
  obtain ⟨h1, h2, h3, -⟩ := hb
  rcases h with rfl | rfl | rfl | rfl | rfl | rfl
  · exact h1
  · exact h2
  · exact h3
  · exact hn _ h1
  · exact hn _ h2
  · exact hn _ h3
theorem cth_co {c : Int} {a b : tn} (h : cok c) (ha : tok a) : cth c (tco a b) = cth (cth c a) b := by
  obtain ⟨h1, h2, h3, -⟩ := ha
  rcases h with rfl | rfl | rfl | rfl | rfl | rfl
  · rfl
  · rfl
  · rfl
  · exact (cth_neg h1 b).symm
  · exact (cth_neg h2 b).symm
  · exact (cth_neg h3 b).symm
theorem tco_as {a b c : tn} (ha : tok a) (hb : tok b) : tco (tco a b) c = tco a (tco b c) := by
  obtain ⟨h1, h2, h3, -⟩ := ha
  show (cth (cth a.1 b) c, cth (cth a.2.1 b) c, cth (cth a.2.2 b) c) = (cth a.1 (tco b c), cth a.2.1 (tco b c), cth a.2.2 (tco b c))
  rw [cth_co h1 hb, cth_co h2 hb, cth_co h3 hb]
theorem tco_l (a : tn) : tco tid a = a := rfl
theorem tco_r_mem : ∀ a ∈ allT, tco a tid = a := by decide +kernel
theorem tco_r {a : tn} (h : tok a) : tco a tid = a := tco_r_mem a (tok_mem.mp h)
def tpw (a : tn) : Nat → tn
  | 0 => tid
  | k + 1 => tco (tpw a k) a
theorem tpw_ok {a : tn} (h : tok a) : ∀ k, tok (tpw a k)
  | 0 => tid_ok
  | k + 1 => tco_ok (tpw_ok h k) h
theorem tpw_12_mem : ∀ a ∈ allT, tco (tpw a 11) a = tid ∧ tco a (tpw a 11) = tid := by decide +kernel
/-- the turn that leads back -/
def tiv (a : tn) : tn := tpw a 11
theorem tiv_ok {a : tn} (h : tok a) : tok (tiv a) := tpw_ok h 11
theorem tiv_l {a : tn} (h : tok a) : tco (tiv a) a = tid := (tpw_12_mem a (tok_mem.mp h)).1
theorem tiv_r {a : tn} (h : tok a) : tco a (tiv a) = tid := (tpw_12_mem a (tok_mem.mp h)).2
theorem tco_cl {a b c : tn} (ha : tok a) (hb : tok b) (hc : tok c) (h : tco a b = tco a c) : b = c := by
  have h2 : tco (tiv a) (tco a b) = tco (tiv a) (tco a c) := by rw [h]
  rw [← tco_as (tiv_ok ha) ha, ← tco_as (tiv_ok ha) ha, tiv_l ha, tco_l, tco_l] at h2
  exact h2
theorem tco_cr {a b c : tn} (ha : tok a) (hb : tok b) (hc : tok c) (h : tco b a = tco c a) : b = c := by
  have h2 : tco (tco b a) (tiv a) = tco (tco c a) (tiv a) := by rw [h]
  rw [tco_as hb ha, tco_as hc ha, tiv_r ha, tco_r hb, tco_r hc] at h2
  exact h2
/-- numbers that differ and are small are few -/
theorem pig : ∀ (m n : Nat) (f : Nat → Nat), (∀ g, g < n → f g < m) → (∀ g h, g < n → h < n → f g = f h → g = h) → n ≤ m := by
  intro m
  induction m with
  | zero =>
    intro n f h1 h2
    rcases Nat.eq_zero_or_pos n with e | e
    · omega
    · exact absurd (h1 0 e) (Nat.not_lt_zero _)
  | succ m ih =>
    intro n f h1 h2
    rcases Nat.eq_zero_or_pos n with e | hn
    · omega
    · -- the one that is sent to m changes places with the last
      by_cases hx : ∃ g, g < n ∧ f g = m
      · obtain ⟨g0, hg0, e0⟩ := hx
        have := ih (n - 1) (fun g => if g = g0 then f (n - 1) else f g) (fun g hg => by
          split
          · rename_i e
            have a := h1 (n - 1) (by omega)
            have b : f (n - 1) ≠ m := fun q => by
              have := h2 (n - 1) g0 (by omega) hg0 (q.trans e0.symm)
              omega
            omega
          · rename_i e
            have a := h1 g (by omega)
            have b : f g ≠ m := fun q => e (h2 g g0 (by omega) hg0 (q.trans e0.symm))
            omega) (fun g h hg hh e => by
          split at e <;> split at e
          · omega
          · have := h2 _ _ (by omega) (by omega) e
            omega
          · have := h2 _ _ (by omega) (by omega) e
            omega
          · exact h2 _ _ (by omega) (by omega) e)
        omega
      · have := ih n f (fun g hg => by
          have a := h1 g hg
          have b : f g ≠ m := fun q => hx ⟨g, hg, q⟩
          omega) h2
        omega
/-- a list of turns that is a group -/
def GP (E : Nat → tn) (n : Nat) : Prop := 0 < n ∧ E 0 = tid ∧ (∀ g, g < n → tok (E g)) ∧ (∀ g h, g < n → h < n → E g = E h → g = h) ∧ ∀ g h, g < n → h < n → ∃ k, k < n ∧ E k = tco (E g) (E h)
def tix (t : tn) : Nat := allT.idxOf t
theorem tix_lt {t : tn} (h : tok t) : tix t < 48 := by
  unfold tix
  rw [← allT_len]
  exact List.idxOf_lt_length_of_mem (tok_mem.mp h)
theorem tix_inj {a b : tn} (ha : tok a) (hb : tok b) (h : tix a = tix b) : a = b := by
  have h1 : allT[tix a]'(by rw [allT_len]; exact tix_lt ha) = a := List.getElem_idxOf _
  have h2 : allT[tix b]'(by rw [allT_len]; exact tix_lt hb) = b := List.getElem_idxOf _
  rw [← h1, ← h2]
  congr 1
theorem few48 {E : Nat → tn} {n : Nat} (h1 : ∀ g, g < n → tok (E g)) (h2 : ∀ g h, g < n → h < n → E g = E h → g = h) : n ≤ 48 :=
  pig 48 n (fun g => tix (E g)) (fun g hg => tix_lt (h1 g hg)) (fun g h hg hh e => h2 g h hg hh (tix_inj (h1 g hg) (h1 h hh) e))
theorem GP_pw {E : Nat → tn} {n g : Nat} (h : GP E n) (hg : g < n) : ∀ k, ∃ j, j < n ∧ E j = tpw (E g) k
  | 0 => ⟨0, h.1, h.2.1⟩
  | k + 1 => by
    obtain ⟨j, hj, e⟩ := GP_pw h hg k
    obtain ⟨i, hi, e2⟩ := h.2.2.2.2 j g hj hg
    exact ⟨i, hi, by rw [e2, e]; rfl⟩
theorem GP_iv {E : Nat → tn} {n g : Nat} (h : GP E n) (hg : g < n) : ∃ j, j < n ∧ E j = tiv (E g) := GP_pw h hg 11
