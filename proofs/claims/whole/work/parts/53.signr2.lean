/-! the reference's signs: no two alike, placed in their order -/
/-- the choices of a list: signs, rows in place -/
def RS (σ : mS) (M : Nat → tn) (m : Nat) (l : List Nat) : Prop := σ 71 0 11 = (l.length : Int) ∧ ∀ k, k < l.length → RW σ M m k (l.getD k 0)
def SV (M : Nat → tn) (m c : Nat) : Prop := c < 2 ^ m ∧ vlb M m (bfs M m) (vC m c) = true
theorem rwc_ne {M : Nat → tn} {m c b : Nat} (hm : m ≤ 4) (hM : ∀ t, t < m → tok (M t)) (hc : SV M m c) (hb : SV M m b) (hne : c ≠ b) : ∃ g0, g0 < (bfs M m).length ∧ (∀ g, g < g0 → rwc m (bfs M m) c g = rwc m (bfs M m) b g) ∧ rwc m (bfs M m) c g0 ≠ rwc m (bfs M m) b g0 ∧ (rwc m (bfs M m) c g0 = 1 ↔ c < b) := by
  rcases Nat.lt_or_gt_of_ne hne with h | h
  · obtain ⟨g0, a1, a2, a3, a4⟩ := rwc_ord hm hM hc.2 hb.2 h hb.1
    exact ⟨g0, a1, a2, by rw [a3, a4]; decide, ⟨fun _ => h, fun _ => a3⟩⟩
  · obtain ⟨g0, a1, a2, a3, a4⟩ := rwc_ord hm hM hb.2 hc.2 h hc.1
    exact ⟨g0, a1, fun g hg => (a2 g hg).symm, by rw [a3, a4]; decide, ⟨fun q => by rw [a4] at q; exact absurd q (by decide), fun q => by omega⟩⟩
theorem mw48 {k g : Nat} (hk : k < 16) (hg : g < 48) : mw (mw (48 * (k : Int)) + (g : Int)) = ((48 * k + g : Nat) : Int) := by
  rw [show mw (48 * (k : Int)) = 48 * (k : Int) from mw_id (by omega) (by omega), mw_id (by omega) (by omega)]; omega
theorem mw48' {k : Nat} (hk : k < 16) : mw (48 * (k : Int)) = ((48 * k : Nat) : Int) := by
  rw [mw_id (by omega) (by omega)]; omega
theorem X12_same_eq {N : Nat} {M : Nat → tn} {m s k q b : Nat} {σ : mS} (hN : 100 ≤ N) (H : RGr σ M m) (hk : k < 16) (hq : q < 16) {c : Nat} (hr : RW σ M m k c) (hb : RW σ M m q b) (hc : SV M m c) (hv : SV M m b) (hne : c ≠ b) : L_X12_findSigns_243 N N (s : Int) ((48 * k : Nat) : Int) (q : Int) 1 0 σ = some (0, σ) := by
  have h48 := RGr_48 H
  have hm4 := H.2.2.1
  have hM := RGr_M H
  have hn := H.1.1
  obtain ⟨g0, a1, a2, a3, -⟩ := rwc_ne hm4 hM hc hv hne
  obtain ⟨o, e, h⟩ := lp2_0 (L := fun f g a s1 => L_X12_findSigns_243 N f (s : Int) ((48 * k : Nat) : Int) (q : Int) a g s1) (I := fun i a s1 => s1 = σ ∧ ((i ≤ g0 ∧ a = 1) ∨ (g0 < i ∧ a = 0))) (P := fun o => o = (0, σ)) (bfs M m).length (fun f i a s1 hi hI => by
      obtain ⟨h1, h2⟩ := hI
      subst h1
      left
      have x2 : mw (((48 * k : Nat) : Int) + (i : Int)) = ((48 * k + i : Nat) : Int) := by rw [mw_id (by omega) (by omega)]; omega
      try dsimp only
      rw [L_X12_findSigns_243_s, hn, if_neg (by omega), mw_s (by omega), mw48 hq (by omega), x2, tN, tN, hb i hi, hr i hi]
      rcases h2 with ⟨y1, rfl⟩ | ⟨y1, rfl⟩
      · rw [if_neg (by decide), if_pos (by omega)]
        by_cases e : i = g0
        · subst e
          rw [if_neg (fun z => a3 z.symm)]
          exact ⟨_, _, rfl, rfl, Or.inr ⟨by omega, rfl⟩⟩
        · rw [if_pos (a2 i (by omega)).symm]
          exact ⟨_, _, rfl, rfl, Or.inl ⟨by omega, rfl⟩⟩
      · rw [if_pos rfl]
        exact ⟨_, _, rfl, rfl, Or.inr ⟨by omega, rfl⟩⟩) (fun f a s1 hI => by
      obtain ⟨h1, h2⟩ := hI
      subst h1
      have : a = 0 := by rcases h2 with ⟨y1, -⟩ | ⟨-, y⟩ <;> omega
      subst this
      refine ⟨_, ?_, rfl⟩
      try dsimp only
      rw [L_X12_findSigns_243_s, hn, if_pos (by omega)]) (f := N) (a := 1) (s := σ) (by omega) ⟨rfl, Or.inl ⟨by omega, rfl⟩⟩
  try dsimp only at e
  rw [e, h]
theorem X12_new_eq {N : Nat} {M : Nat → tn} {m s : Nat} {σ : mS} {l : List Nat} (hN : 100 ≤ N) (H : RGr σ M m) (hl : l.length < 16) (hS : RS σ M m l) {c : Nat} (hr : RW σ M m l.length c) (hv : ∀ b, b ∈ l → SV M m b) (b : Bool) (hb : b = true → SV M m c ∧ c ∉ l) : L_X12_findSigns_224 N N (s : Int) ((48 * l.length : Nat) : Int) (bi b) 0 σ = some (bi b, σ) := by
  cases b with
  | false =>
    obtain ⟨K, rfl⟩ : ∃ K, N = K + 1 := ⟨N - 1, by omega⟩
    rw [L_X12_findSigns_224_s]
    split
    · rfl
    · rw [if_pos bi_f]
  | true =>
    obtain ⟨hc, hnl⟩ := hb rfl
    obtain ⟨o, e, h⟩ := lp2_0 (L := fun f q a s1 => L_X12_findSigns_224 N f (s : Int) ((48 * l.length : Nat) : Int) a q s1) (I := fun i a s1 => s1 = σ ∧ a = 1) (P := fun o => o = (1, σ)) l.length (fun f i a s1 hi hI => by
      obtain ⟨h1, h2⟩ := hI
      subst h1
      subst h2
      left
      have hmem : l.getD i 0 ∈ l := by
        rw [List.getD_eq_getElem?_getD, List.getElem?_eq_getElem hi]
        exact List.getElem_mem hi
      try dsimp only
      rw [L_X12_findSigns_224_s, hS.1, if_neg (by omega), if_neg (by decide), X12_same_eq hN H hl (by omega) hr (hS.2 i hi) hc (hv _ hmem) (fun z => hnl (z ▸ hmem)), Option.bind_some, mw_s (by omega)]
      try dsimp only
      rw [if_pos rfl]
      exact ⟨_, _, rfl, rfl, rfl⟩) (fun f a s1 hI => by
      obtain ⟨h1, h2⟩ := hI
      subst h1
      subst h2
      refine ⟨_, ?_, rfl⟩
      try dsimp only
      rw [L_X12_findSigns_224_s, hS.1, if_pos (by omega)]) (f := N) (a := 1) (s := σ) (by omega) ⟨rfl, rfl⟩
    try dsimp only at e
    rw [show bi true = 1 from rfl, e, h]
theorem X12_isAhead_eq {N : Nat} {M : Nat → tn} {m k q c b : Nat} {σ : mS} (hN : 100 ≤ N) (H : RGr σ M m) (hk : k < 16) (hq : q < 16) (hr : RW σ M m k c) (hb : RW σ M m q b) (hc : SV M m c) (hv : SV M m b) (hne : c ≠ b) : f_X12_isAhead N (k : Int) (q : Int) σ = some (if c < b then 1 else 0, σ) := by
  have h48 := RGr_48 H
  have hm4 := H.2.2.1
  have hM := RGr_M H
  have hn := H.1.1
  obtain ⟨g0, a1, a2, a3, a4⟩ := rwc_ne hm4 hM hc hv hne
  obtain ⟨o, e, h⟩ := lp_0 (L := fun f g s1 => L_X12_isAhead_2 N f (k : Int) (q : Int) g s1) (I := fun i s1 => s1 = σ ∧ i ≤ g0) (P := fun o => o = ((g0 : Int), σ)) (bfs M m).length (fun f i s1 hi hI => by
      obtain ⟨h1, h2⟩ := hI
      subst h1
      try dsimp only
      rw [L_X12_isAhead_2_s, hn, if_neg (by omega), mw_s (by omega), mw48 hk (by omega), mw48 hq (by omega), if_pos (by omega), tN, tN, hr i hi, hb i hi]
      by_cases e : i = g0
      · subst e
        rw [if_neg a3]
        exact Or.inr ⟨_, rfl, rfl⟩
      · rw [if_pos (a2 i (by omega))]
        exact Or.inl ⟨_, rfl, rfl, by omega⟩) (fun f s1 hI => by
      obtain ⟨h1, h2⟩ := hI
      omega) (f := N) (s := σ) (by omega) ⟨rfl, by omega⟩
  try dsimp only at e
  subst h
  unfold f_X12_isAhead
  rw [e, Option.bind_some]
  try dsimp only
  rw [hn, if_neg (by omega), mw48 hk (by omega), if_pos (by omega), tN, hr g0 a1]
  by_cases z : c < b
  · rw [if_pos (a4.mpr z), if_pos z]
  · rw [if_neg (fun y => z (a4.mp y)), if_neg z]
theorem X12_swap_eq {N : Nat} {M : Nat → tn} {m k : Nat} {σ : mS} (hN : 100 ≤ N) (H : RGr σ M m) (hk : k + 1 < 16) : ∃ σ', L_X12_place_22 N N ((k + 1 : Nat) : Int) 0 σ = some σ' ∧ fr [79] σ σ' ∧ (∀ g, g < (bfs M m).length → σ' 79 0 (48 * k + g) = σ 79 0 (48 * (k + 1) + g) ∧ σ' 79 0 (48 * (k + 1) + g) = σ 79 0 (48 * k + g)) ∧ ∀ q, (q < 48 * k ∨ 48 * k + 96 ≤ q) → σ' 79 0 q = σ 79 0 q := by
  have h48 := RGr_48 H
  have hn := H.1.1
  have x0 : mw (48 * ((k + 1 : Nat) : Int)) = ((48 * (k + 1) : Nat) : Int) := mw48' hk
  obtain ⟨s1, e, h1, h2, h3, h4⟩ := lp_0 (L := fun f g s1 => L_X12_place_22 N f ((k + 1 : Nat) : Int) g s1) (I := fun i s1 => fr [79] σ s1 ∧ (∀ g, g < i → s1 79 0 (48 * k + g) = σ 79 0 (48 * (k + 1) + g) ∧ s1 79 0 (48 * (k + 1) + g) = σ 79 0 (48 * k + g)) ∧ (∀ g, i ≤ g → g < 48 → s1 79 0 (48 * k + g) = σ 79 0 (48 * k + g) ∧ s1 79 0 (48 * (k + 1) + g) = σ 79 0 (48 * (k + 1) + g)) ∧ ∀ q, (q < 48 * k ∨ 48 * k + 96 ≤ q) → s1 79 0 q = σ 79 0 q)
    (P := fun s1 => fr [79] σ s1 ∧ (∀ g, g < (bfs M m).length → s1 79 0 (48 * k + g) = σ 79 0 (48 * (k + 1) + g) ∧ s1 79 0 (48 * (k + 1) + g) = σ 79 0 (48 * k + g)) ∧ True ∧ ∀ q, (q < 48 * k ∨ 48 * k + 96 ≤ q) → s1 79 0 q = σ 79 0 q) (bfs M m).length (fun f i s1 hi hI => by
      obtain ⟨h1, h2, h3, h4⟩ := hI
      left
      have x1 : mw (((48 * (k + 1) : Nat) : Int) + (i : Int)) = ((48 * (k + 1) + i : Nat) : Int) := by rw [mw_id (by omega) (by omega)]; omega
      have x2 : mw (mw (((48 * (k + 1) : Nat) : Int) - 48) + (i : Int)) = ((48 * k + i : Nat) : Int) := by rw [show mw (((48 * (k + 1) : Nat) : Int) - 48) = ((48 * k : Nat) : Int) from (by rw [mw_id (by omega) (by omega)]; omega), mw_id (by omega) (by omega)]; omega
      obtain ⟨y1, y2⟩ := h3 i (Nat.le_refl _) (by omega)
      try dsimp only
      rw [L_X12_place_22_s, h1 71 0 6 (by decide), hn, if_neg (by omega), x0, x1, x2, if_pos (by omega), mw_s (by omega), tN, tN, y1, y2]
      refine ⟨_, rfl, fr_mup (fr_mup h1 (by decide)) (by decide), fun g hg => ?_, fun g hg1 hg2 => ?_, fun q hq => ?_⟩
      · by_cases eg : g = i
        · subst eg
          rw [mup_s, mup_k (by omega), mup_s]
          exact ⟨rfl, rfl⟩
        · rw [mup_k (by omega), mup_k (by omega), mup_k (by omega), mup_k (by omega)]
          exact h2 g (by omega)
      · rw [mup_k (by omega), mup_k (by omega), mup_k (by omega), mup_k (by omega)]
        exact h3 g (by omega) hg2
      · rw [mup_k (by omega), mup_k (by omega)]
        exact h4 q hq) (fun f s1 hI => by
      obtain ⟨h1, h2, h3, h4⟩ := hI
      refine ⟨s1, ?_, h1, h2, trivial, h4⟩
      try dsimp only
      rw [L_X12_place_22_s, h1 71 0 6 (by decide), hn, if_pos (by omega)]) (f := N) (s := σ) (by omega) ⟨fr_rfl, fun g hg => absurd hg (Nat.not_lt_zero _), fun g _ _ => ⟨rfl, rfl⟩, fun _ _ => rfl⟩
  exact ⟨s1, e, h1, h2, h4⟩
/-- rows 0 .. of the signs are those of a list -/
def RWs (σ : mS) (M : Nat → tn) (m : Nat) (l : List Nat) : Prop := ∀ k, k < l.length → RW σ M m k (l.getD k 0)
theorem getD_app_l {l l' : List Nat} {k : Nat} (h : k < l.length) : (l ++ l').getD k 0 = l.getD k 0 := by rw [List.getD_eq_getElem?_getD, List.getElem?_append_left h, ← List.getD_eq_getElem?_getD]
theorem getD_app_r {l l' : List Nat} {k : Nat} : (l ++ l').getD (l.length + k) 0 = l'.getD k 0 := by rw [List.getD_eq_getElem?_getD, List.getElem?_append_right (by omega), show l.length + k - l.length = k from by omega, ← List.getD_eq_getElem?_getD]
theorem X12_place_lp {N : Nat} {M : Nat → tn} {m c : Nat} (hN : 100 ≤ N) (hc : SV M m c) : ∀ (f : Nat) (A B : List Nat) (σ : mS), A.length < f → A.length + B.length < 16 → RGr σ M m → RWs σ M m (A ++ c :: B) → (∀ b, b ∈ A → SV M m b ∧ b ≠ c) → A.Pairwise (· < ·) →
    ∃ (A1 A2 : List Nat) (σ' : mS), A = A1 ++ A2 ∧ L_X12_place_5 N f (A.length : Int) σ = some σ' ∧ fr [79] σ σ' ∧ RWs σ' M m (A1 ++ c :: (A2 ++ B)) ∧ (∀ b, b ∈ A1 → b < c) ∧ ∀ b, b ∈ A2 → c < b := by
  intro f
  induction f with
  | zero => intro A B σ h; exact absurd h (Nat.not_lt_zero _)
  | succ f ih =>
    intro A B σ hf hAB H hR hA hs
    rw [L_X12_place_5_s]
    rcases List.eq_nil_or_concat A with e | ⟨A', b, e⟩
    · subst e
      rw [if_pos (by simp)]
      exact ⟨[], [], σ, rfl, rfl, fr_rfl, hR, fun b h => absurd h (by simp), fun b h => absurd h (by simp)⟩
    · rw [List.concat_eq_append] at e
      subst e
      have hlen : (A' ++ [b]).length = A'.length + 1 := by simp
      have hb := hA b (by simp)
      have hrow1 : RW σ M m (A'.length + 1) c := by
        have := hR (A'.length + 1) (by simp)
        rw [show (A' ++ [b] ++ c :: B).getD (A'.length + 1) 0 = c from by
          have := getD_app_r (l := A' ++ [b]) (l' := c :: B) (k := 0)
          rw [hlen] at this
          exact this] at this
        exact this
      have hrow0 : RW σ M m A'.length b := by
        have := hR A'.length (by simp)
        rw [show (A' ++ [b] ++ c :: B).getD A'.length 0 = b from by
          rw [List.append_assoc]
          exact getD_app_r (l := A') (l' := [b] ++ c :: B) (k := 0)] at this
        exact this
      rw [hlen] at hf hAB ⊢
      rw [if_neg (by omega), show mw (((A'.length + 1 : Nat) : Int) - 1) = (A'.length : Int) from (by rw [mw_id (by omega) (by omega)]; omega), X12_isAhead_eq hN H (by omega) (by omega) hrow1 hrow0 hc hb.1 (fun z => hb.2 z.symm), Option.bind_some]
      try dsimp only
      by_cases z : c < b
      · rw [if_pos z, if_neg (by decide)]
        obtain ⟨s1, q1, q2, q3, q4⟩ := X12_swap_eq (k := A'.length) hN H (by omega)
        rw [q1, Option.bind_some, show mw (((A'.length + 1 : Nat) : Int) + (-1)) = (A'.length : Int) from (by rw [mw_id (by omega) (by omega)]; omega)]
        have H1 := RGr_fq H (fq_of q2 (by decide)) (by decide) (by decide)
        have h48 := RGr_48 H
        have hR1 : RWs s1 M m (A' ++ c :: (b :: B)) := by
          intro k hk g hg
          have hk2 : k < A'.length + (B.length + 2) := by simpa using hk
          by_cases e1 : k < A'.length
          · rw [getD_app_l e1, q4 _ (by omega)]
            have := hR k (by simp; omega) g hg
            rw [List.append_assoc, getD_app_l e1] at this
            exact this
          · by_cases e2 : k = A'.length
            · subst e2
              rw [(q3 g hg).1, show (A' ++ c :: (b :: B)).getD A'.length 0 = c from getD_app_r (l := A') (l' := c :: (b :: B)) (k := 0)]
              exact hrow1 g hg
            · by_cases e3 : k = A'.length + 1
              · subst e3
                rw [(q3 g hg).2, show (A' ++ c :: (b :: B)).getD (A'.length + 1) 0 = b from getD_app_r (l := A') (l' := c :: (b :: B)) (k := 1)]
                exact hrow0 g hg
              · obtain ⟨j, rfl⟩ : ∃ j, k = A'.length + (j + 2) := ⟨k - A'.length - 2, by omega⟩
                rw [q4 _ (by omega), getD_app_r (l := A') (l' := c :: (b :: B)) (k := j + 2)]
                have := hR (A'.length + (j + 2)) (by simp; omega) g hg
                rw [List.append_assoc, getD_app_r (l := A') (l' := [b] ++ c :: B) (k := j + 2)] at this
                exact this
        obtain ⟨A1, A2, s2, p1, p2, p3, p4, p5, p6⟩ := ih A' (b :: B) s1 (by omega) (by simp; omega) H1 hR1 (fun x hx => hA x (by simp [hx])) (List.pairwise_append.mp hs).1
        refine ⟨A1, A2 ++ [b], s2, by rw [p1, List.append_assoc], p2, fr_trans q2 p3, by rw [List.append_assoc]; exact p4, p5, fun x hx => ?_⟩
        rcases List.mem_append.mp hx with y | y
        · exact p6 x y
        · have : x = b := by simpa using y
          rw [this]; exact z
      · rw [if_neg z, if_pos rfl]
        refine ⟨A' ++ [b], [], σ, by simp, rfl, fr_rfl, hR, fun x hx => ?_, fun x hx => absurd hx (by simp)⟩
        have hbc : b < c := by have := hb.2; omega
        rcases List.mem_append.mp hx with y | y
        · have := (List.pairwise_append.mp hs).2.2 x y b (by simp)
          omega
        · have : x = b := by simpa using y
          rw [this]; exact hbc
