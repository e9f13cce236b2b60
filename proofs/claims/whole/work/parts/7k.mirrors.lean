/-! about 5: made of mirrors -/
theorem ct_sub {p q : Nat → Bool} : ∀ n, (∀ k, k < n → p k = true → q k = true) → ct p n ≤ ct q n
  | 0, _ => Nat.le_refl _
  | n + 1, h => by
    have ih := ct_sub n (fun k hk => h k (by omega))
    have h1 := h n (by omega)
    rw [ct_s, ct_s]
    by_cases e : p n = true
    · rw [if_pos e, if_pos (h1 e)]; omega
    · rw [if_neg e]; split <;> omega
theorem ct_eq {p q : Nat → Bool} : ∀ n, (∀ k, k < n → p k = true → q k = true) → ct q n ≤ ct p n → ∀ k, k < n → q k = true → p k = true
  | 0, _, _ => fun k hk => absurd hk (Nat.not_lt_zero _)
  | n + 1, h, hc => by
    have hs := ct_sub n (fun k hk => h k (by omega))
    have h1 := h n (by omega)
    rw [ct_s, ct_s] at hc
    intro k hk hq
    by_cases e : p n = true
    · rw [if_pos e, if_pos (h1 e)] at hc
      by_cases ek : k = n
      · subst ek; exact e
      · exact ct_eq n (fun k hk => h k (by omega)) (by omega) k (by omega) hq
    · rw [if_neg e] at hc
      by_cases ek : k = n
      · subst ek
        rw [if_pos hq] at hc
        omega
      · refine ct_eq n (fun k hk => h k (by omega)) ?_ k (by omega) hq
        split at hc <;> omega
theorem ct_all {p : Nat → Bool} : ∀ n, ct p n = n → ∀ k, k < n → p k = true
  | 0, _ => fun k hk => absurd hk (Nat.not_lt_zero _)
  | n + 1, h => by
    have hl := ct_le p n
    rw [ct_s] at h
    intro k hk
    by_cases e : p n = true
    · rw [if_pos e] at h
      by_cases ek : k = n
      · subst ek; exact e
      · exact ct_all n (by omega) k (by omega)
    · rw [if_neg e] at h
      omega
theorem ct_of {p : Nat → Bool} : ∀ n, (∀ k, k < n → p k = true) → ct p n = n
  | 0, _ => rfl
  | n + 1, h => by rw [ct_s, ct_of n (fun k hk => h k (by omega)), if_pos (h n (by omega))]
theorem ct_ext {p : Nat → Bool} {n : Nat} : ∀ j, (∀ k, n ≤ k → k < n + j → p k = false) → ct p (n + j) = ct p n
  | 0, _ => rfl
  | j + 1, h => by
    rw [← Nat.add_assoc, ct_s, ct_ext j (fun k h1 h2 => h k h1 (by omega)), h (n + j) (by omega) (by omega)]
    rfl
theorem ct_1 {p : Nat → Bool} {k : Nat} : ∀ n, k < n → p k = true → 1 ≤ ct p n
  | 0, h, _ => absurd h (Nat.not_lt_zero _)
  | n + 1, h, hp => by
    rw [ct_s]
    by_cases e : k = n
    · subst e; rw [if_pos hp]; omega
    · have := ct_1 n (by omega) hp; omega
/-- reached from 0 by mirrors -/
def rch (E : Nat → tn) (n g : Nat) : Prop := ∀ S : Nat → Prop, S 0 → (∀ a, a < n → S a → ∀ h, h < n → mir (E h) = true → S (gm E n a h)) → S g
theorem rch_0 (E : Nat → tn) (n : Nat) : rch E n 0 := fun _ h _ => h
theorem rch_s {E : Nat → tn} {n a h : Nat} (ha : a < n) (hr : rch E n a) (hh : h < n) (hm : mir (E h) = true) : rch E n (gm E n a h) := fun S h0 hs => hs a ha (hr S h0 hs) h hh hm
def stp1 (E : Nat → tn) (n g c : Nat) : Prop := ∃ h, h < n ∧ mir (E h) = true ∧ gm E n g h = c
/-- the table and the mirrors, as the class bears them -/
def CMi (σ : mS) (E : Nat → tn) (n : Nat) : Prop := CT σ E n ∧ ∀ g, g < n → σ 22 0 g = if mir (E g) = true then 1 else 0
theorem X1_more17 {N n g x y : Nat} {E : Nat → tn} {σ : mS} (hN : 1000 ≤ N) (H : CMi σ E n) (hg : g < n) (hx : x < 281474976710656) (hy : y < 281474976710656) : ∃ y', L_X1_oneMirrorMore_17 N N (x : Int) (y : Int) (g : Int) 0 σ = some (((y' : Nat) : Int), σ) ∧ y' < 281474976710656 ∧ ∀ c, y'.testBit c = true ↔ (y.testBit c = true ∨ (x.testBit g = true ∧ stp1 E n g c)) := by
  have h48 := CT_48 H.1
  have e1 : o_lshr (x : Int) (g : Int) = ((x / 2 ^ g : Nat) : Int) := lshr_nat (by omega) (by omega)
  have e2 : o_land ((x / 2 ^ g : Nat) : Int) 1 = ((x / 2 ^ g % 2 : Nat) : Int) := by
    have := Nat.div_le_self x (2 ^ g)
    rw [show (1 : Int) = ((1 : Nat) : Int) from rfl, land_nat (by omega) (by omega), Nat.and_one_is_mod]
  have et : x.testBit g = decide (x / 2 ^ g % 2 = 1) := Nat.testBit_eq_decide_div_mod_eq
  obtain ⟨K, hK⟩ : ∃ K, N = K + 1 := ⟨N - 1, by omega⟩
  by_cases q : x / 2 ^ g % 2 = 1
  · have hb : x.testBit g = true := by rw [et]; exact decide_eq_true q
    obtain ⟨o, e, y', r1, r2, r3⟩ := lp2_0 (A := Int) (S := mS) (L := fun f k a s => L_X1_oneMirrorMore_17 N f (x : Int) a (g : Int) k s) (I := fun k a s => s = σ ∧ ∃ y' : Nat, a = (y' : Int) ∧ y' < 281474976710656 ∧ ∀ c, y'.testBit c = true ↔ (y.testBit c = true ∨ ∃ h, h < k ∧ mir (E h) = true ∧ gm E n g h = c)) (P := fun o => ∃ y' : Nat, o = ((y' : Int), σ) ∧ y' < 281474976710656 ∧ ∀ c, y'.testBit c = true ↔ (y.testBit c = true ∨ ∃ h, h < n ∧ mir (E h) = true ∧ gm E n g h = c)) n (fun f k a s hk hI => by
        obtain ⟨rfl, y', rfl, h2, h3⟩ := hI
        left
        obtain ⟨g1, -⟩ := gm_ok H.1.2.1 hg hk
        try dsimp only
        rw [L_X1_oneMirrorMore_17_s, H.1.1, if_neg (by omega), e1, e2, q, if_pos (by decide), if_pos (by omega), tN, tN, H.2 k hk, H.1.2.2 g hg k hk, mw_s (by omega)]
        by_cases qm : mir (E k) = true
        · rw [if_pos qm, if_neg (by decide), if_pos (by omega), lshl_nat _ (List.mem_range.mpr (by omega))]
          have hp : 2 ^ gm E n g k < 281474976710656 := Nat.pow_lt_pow_right (a := 2) (m := gm E n g k) (n := 48) (by omega) (by omega)
          rw [lor_nat (by omega) (by omega)]
          refine ⟨_, _, rfl, rfl, _, rfl, Nat.or_lt_two_pow (n := 48) h2 hp, fun c => ?_⟩
          rw [Nat.testBit_or, Bool.or_eq_true, h3 c, Nat.testBit_two_pow]
          constructor
          · rintro ((a | ⟨h, a, b⟩) | a)
            · exact Or.inl a
            · exact Or.inr ⟨h, by omega, b⟩
            · exact Or.inr ⟨k, by omega, qm, of_decide_eq_true a⟩
          · rintro (a | ⟨h, a, b, c1⟩)
            · exact Or.inl (Or.inl a)
            · by_cases eh : h = k
              · subst eh; exact Or.inr (decide_eq_true c1)
              · exact Or.inl (Or.inr ⟨h, by omega, b, c1⟩)
        · rw [if_neg qm, if_pos rfl, show (0 : Int) = ((0 : Nat) : Int) from rfl, lor_nat (by omega) (by omega), Nat.or_zero]
          refine ⟨_, _, rfl, rfl, _, rfl, h2, fun c => ?_⟩
          rw [h3 c]
          constructor
          · rintro (a | ⟨h, a, b⟩)
            · exact Or.inl a
            · exact Or.inr ⟨h, by omega, b⟩
          · rintro (a | ⟨h, a, b, c1⟩)
            · exact Or.inl a
            · by_cases eh : h = k
              · subst eh; exact absurd b qm
              · exact Or.inr ⟨h, by omega, b, c1⟩) (fun f a s hI => by
        obtain ⟨rfl, y', rfl, h2, h3⟩ := hI
        try dsimp only
        rw [L_X1_oneMirrorMore_17_s, H.1.1, if_pos (by omega)]
        exact ⟨_, rfl, y', rfl, h2, h3⟩) (f := N) (a := (y : Int)) (s := σ) (by omega) ⟨rfl, y, rfl, hy, fun c => ⟨fun a => Or.inl a, fun a => by
          rcases a with a | ⟨h, b, -⟩
          · exact a
          · exact absurd b (Nat.not_lt_zero _)⟩⟩
    subst r1
    refine ⟨y', e, r2, fun c => ?_⟩
    rw [r3 c]
    exact ⟨fun a => a.elim Or.inl (fun z => Or.inr ⟨hb, z⟩), fun a => a.elim Or.inl (fun z => Or.inr z.2)⟩
  · have hb : x.testBit g = false := by rw [et]; exact decide_eq_false q
    have q0 : x / 2 ^ g % 2 = 0 := by omega
    refine ⟨y, ?_, hy, fun c => ⟨Or.inl, fun a => a.elim id (fun z => absurd z.1 (by rw [hb]; decide))⟩⟩
    rw [show L_X1_oneMirrorMore_17 N N (x : Int) (y : Int) (g : Int) 0 σ = L_X1_oneMirrorMore_17 N (K + 1) (x : Int) (y : Int) (g : Int) 0 σ from by rw [← hK], L_X1_oneMirrorMore_17_s, H.1.1, if_neg (by omega), e1, e2, q0, if_neg (by decide)]
theorem X1_more_eq {N n x : Nat} {E : Nat → tn} {σ : mS} (hN : 1000 ≤ N) (H : CMi σ E n) (hx : x < 281474976710656) : ∃ y', f_X1_oneMirrorMore N (x : Int) σ = some (((y' : Nat) : Int), σ) ∧ y' < 281474976710656 ∧ ∀ c, y'.testBit c = true ↔ ∃ g, g < n ∧ x.testBit g = true ∧ stp1 E n g c := by
  have h48 := CT_48 H.1
  obtain ⟨o, e, y', r1, r2, r3⟩ := lp2_0 (A := Int) (S := mS) (L := fun f k a s => L_X1_oneMirrorMore_5 N f (x : Int) a k s) (I := fun k a s => s = σ ∧ ∃ y' : Nat, a = (y' : Int) ∧ y' < 281474976710656 ∧ ∀ c, y'.testBit c = true ↔ ∃ g, g < k ∧ x.testBit g = true ∧ stp1 E n g c) (P := fun o => ∃ y' : Nat, o = ((y' : Int), σ) ∧ y' < 281474976710656 ∧ ∀ c, y'.testBit c = true ↔ ∃ g, g < n ∧ x.testBit g = true ∧ stp1 E n g c) n (fun f k a s hk hI => by
      obtain ⟨rfl, y', rfl, h2, h3⟩ := hI
      left
      obtain ⟨z, z1, z2, z3⟩ := X1_more17 (N := N) (g := k) (x := x) (y := y') hN H hk hx h2
      try dsimp only
      rw [L_X1_oneMirrorMore_5_s, H.1.1, if_neg (by omega), z1, Option.bind_some, mw_s (by omega)]
      refine ⟨_, _, rfl, rfl, z, rfl, z2, fun c => ?_⟩
      rw [z3 c, h3 c]
      constructor
      · rintro (⟨g, a, b⟩ | a)
        · exact ⟨g, by omega, b⟩
        · exact ⟨k, by omega, a⟩
      · rintro ⟨g, a, b⟩
        by_cases eg : g = k
        · subst eg; exact Or.inr b
        · exact Or.inl ⟨g, by omega, b⟩) (fun f a s hI => by
      obtain ⟨rfl, y', rfl, h2, h3⟩ := hI
      try dsimp only
      rw [L_X1_oneMirrorMore_5_s, H.1.1, if_pos (by omega)]
      exact ⟨_, rfl, y', rfl, h2, h3⟩) (f := N) (a := 0) (s := σ) (by omega) ⟨rfl, 0, rfl, by omega, fun c => ⟨fun a => by rw [Nat.zero_testBit] at a; exact absurd a (by decide), fun ⟨g, a, _⟩ => absurd a (Nat.not_lt_zero _)⟩⟩
  subst r1
  refine ⟨y', ?_, r2, r3⟩
  unfold f_X1_oneMirrorMore
  try dsimp only at e
  rw [e]
  rfl
/-- a set of reached elements, as bits -/
def bst (E : Nat → tn) (n x : Nat) : Prop := x < 281474976710656 ∧ x.testBit 0 = true ∧ ∀ c, x.testBit c = true → c < n ∧ rch E n c
theorem bc_n {E : Nat → tn} {n x : Nat} (h : bst E n x) (hn : n ≤ 48) : bc x = ct (fun k => x.testBit k) n := by
  unfold bc
  have := ct_ext (p := fun k => x.testBit k) (n := n) (48 - n) (fun k h1 _ => by
    cases e : x.testBit k with
    | false => rfl
    | true => have := (h.2.2 k e).1; omega)
  rw [show n + (48 - n) = 48 from by omega] at this
  exact this
theorem X1_made4 {N n : Nat} {E : Nat → tn} {σ : mS} (hN : 1000 ≤ N) (H : CMi σ E n) : ∀ (j f x b : Nat), 49 - b ≤ j → j < f → bst E n x → (b = 0 ∨ ∃ w, b = bc w ∧ bst E n w ∧ ∀ c, x.testBit c = true ↔ (w.testBit c = true ∨ ∃ g, g < n ∧ w.testBit g = true ∧ stp1 E n g c)) →
    ∃ v : Nat, L_X1_isMadeOfMirrors_4 N f (x : Int) (b : Int) σ = some ((v : Int), σ) ∧ (v = n ↔ ∀ g, g < n → rch E n g) := by
  have h48 := CT_48 H.1
  have hG := H.1.2.1
  intro j
  induction j with
  | zero =>
    intro f x b hj hf hx hb
    have : 49 ≤ b := by omega
    rcases hb with rfl | ⟨w, rfl, hw, -⟩
    · omega
    · have h1 := ct_le (fun k => w.testBit k) 48
      have h2 : bc w = ct (fun k => w.testBit k) 48 := rfl
      omega
  | succ j ih =>
    intro f x b hj hf hx hb
    obtain ⟨f, rfl⟩ : ∃ f', f = f' + 1 := ⟨f - 1, by omega⟩
    have hb1 : 1 ≤ bc x := by unfold bc; exact ct_1 48 (by omega : 0 < 48) hx.2.1
    have hbx : bc x ≤ n := by rw [bc_n hx h48]; exact ct_le _ _
    rw [L_X1_isMadeOfMirrors_4_s, J13_eq hx.1, Option.bind_some]
    try dsimp only
    by_cases q : bc x ≤ b
    · rw [if_pos (by omega)]
      refine ⟨b, rfl, ?_⟩
      rcases hb with rfl | ⟨w, rfl, hw, hwx⟩
      · omega
      · have hsub : ∀ k, k < 48 → w.testBit k = true → x.testBit k = true := fun k _ hk => (hwx k).mpr (Or.inl hk)
        have heq := ct_eq 48 hsub q
        have hcl : ∀ a, a < n → rch E n a → w.testBit a = true := fun a ha hr => by
          refine (hr (fun a => a < n ∧ w.testBit a = true) ⟨hG.1, hw.2.1⟩ (fun a ha hS h hh hm => ?_)).2
          have hlt := (gm_ok hG ha hh).1
          exact ⟨hlt, heq _ (by omega) ((hwx _).mpr (Or.inr ⟨a, ha, hS.2, h, hh, hm, rfl⟩))⟩
        rw [bc_n hw h48]
        exact ⟨fun e g hg => (hw.2.2 g (ct_all n e g hg)).2, fun e => ct_of n (fun k hk => hcl k hk (e k hk))⟩
    · rw [if_neg (by omega)]
      by_cases q2 : 48 ≤ b
      · rw [if_pos (by omega)]
        refine ⟨b, rfl, ?_⟩
        rcases hb with rfl | ⟨w, rfl, hw, hwx⟩
        · omega
        · have e := bc_n hw h48
          have e2 := ct_le (fun k => w.testBit k) n
          exact ⟨fun _ g hg => (hw.2.2 g (ct_all n (by omega) g hg)).2, fun _ => by omega⟩
      · rw [if_neg (by omega), J13_eq hx.1, Option.bind_some]
        try dsimp only
        obtain ⟨y, y1, y2, y3⟩ := X1_more_eq (N := N) hN H hx.1
        rw [y1, Option.bind_some]
        try dsimp only
        have hx1 := hx.1
        rw [lor_nat (by omega) (by omega)]
        have hbit : ∀ c, (x ||| y).testBit c = true ↔ (x.testBit c = true ∨ ∃ g, g < n ∧ x.testBit g = true ∧ stp1 E n g c) := fun c => by
          rw [Nat.testBit_or, Bool.or_eq_true, y3 c]
        refine ih f (x ||| y) (bc x) (by omega) (by omega) ⟨Nat.or_lt_two_pow (n := 48) hx.1 y2, (hbit 0).mpr (Or.inl hx.2.1), fun c hc => ?_⟩ (Or.inr ⟨x, rfl, hx, hbit⟩)
        rcases (hbit c).mp hc with a | ⟨g, a1, a2, h, a3, a4, a5⟩
        · exact hx.2.2 c a
        · subst a5
          exact ⟨(gm_ok hG a1 a3).1, rch_s a1 (hx.2.2 g a2).2 a3 a4⟩
noncomputable def byM (E : Nat → tn) (n : Nat) : Bool := @decide (∀ g, g < n → rch E n g) (Classical.propDecidable _)
theorem byM_t {E : Nat → tn} {n : Nat} (q : ∀ g, g < n → rch E n g) : byM E n = true := @decide_eq_true _ (Classical.propDecidable _) q
theorem byM_f {E : Nat → tn} {n : Nat} (q : ¬ ∀ g, g < n → rch E n g) : byM E n = false := @decide_eq_false _ (Classical.propDecidable _) q
theorem X1_isMade_eq {N n : Nat} {E : Nat → tn} {σ : mS} (hN : 1000 ≤ N) (H : CMi σ E n) : f_X1_isMadeOfMirrors N σ = some (bi (byM E n), σ) := by
  have hG := H.1.2.1
  obtain ⟨v, e, h⟩ := X1_made4 (N := N) hN H 49 N 1 0 (by omega) (by omega) ⟨by omega, by decide, fun c hc => by
    rw [show 1 = 2 ^ 0 from rfl, Nat.testBit_two_pow] at hc
    have := of_decide_eq_true hc
    subst this
    exact ⟨hG.1, rch_0 E n⟩⟩ (Or.inl rfl)
  unfold f_X1_isMadeOfMirrors
  rw [show (1 : Int) = ((1 : Nat) : Int) from rfl, show (0 : Int) = ((0 : Nat) : Int) from rfl, e, Option.bind_some]
  try dsimp only
  rw [H.1.1]
  by_cases q : ∀ g, g < n → rch E n g
  · rw [if_pos (by rw [h.mpr q]), byM_t q]; rfl
  · rw [if_neg (fun z => q (h.mp (by omega))), byM_f q]; rfl
