/-! the reference's polynomials: rows, three loops in one another, degrees -/
def PR (Q : Nat → Int) (a : Nat) : Int := if dg a ≤ 8 then Q (xa a) else 0
theorem PR_ax (Q : Nat → Int) {x : Nat} (hx : x < 165) : PR Q (ax x) = Q x := by
  unfold PR
  rw [if_pos (by rw [dg_ax hx]; exact pD_le hx), xa_ax hx]
theorem PR_cg {Q R : Nat → Int} (h : ∀ x, x < 165 → Q x = R x) {a : Nat} (ha : a < 729) : PR Q a = PR R a := by
  unfold PR
  by_cases hd : dg a ≤ 8
  · rw [if_pos hd, if_pos hd, h _ (xa_lt ha hd)]
  · rw [if_neg hd, if_neg hd]
theorem PR_rg {Q : Nat → Int} (h : nm Q) {a : Nat} (ha : a < 729) : 0 ≤ PR Q a ∧ PR Q a < 32003 := by
  unfold PR
  by_cases hd : dg a ≤ 8
  · rw [if_pos hd]; exact h _ (xa_lt ha hd)
  · rw [if_neg hd]; omega
def RP (σ : mS) (P : Nat → Nat → Int) : Prop := ∀ p, p < 8 → ∀ a, a < 729 → σ 81 0 (729 * p + a) = PR (P p) a
theorem mw729 {p a : Nat} (hp : p < 10) (ha : a < 729) : mw (mw (729 * (p : Int)) + (a : Int)) = ((729 * p + a : Nat) : Int) := by
  rw [show mw (729 * (p : Int)) = 729 * (p : Int) from mw_id (by omega) (by omega), mw_id (by omega) (by omega)]; omega
/-- row p of the polynomials is written anew -/
def rwP (σ σ' : mS) (p : Nat) (F : Nat → Int) : Prop := fr [81] σ σ' ∧ (∀ c, (c < 729 * p ∨ 729 * p + 729 ≤ c) → σ' 81 0 c = σ 81 0 c) ∧ ∀ a, a < 729 → σ' 81 0 (729 * p + a) = F a
def rwI (σ s : mS) (p : Nat) (F : Nat → Int) (a : Nat) : Prop := fr [81] σ s ∧ (∀ c, (c < 729 * p ∨ 729 * p + 729 ≤ c) → s 81 0 c = σ 81 0 c) ∧ (∀ b, b < a → s 81 0 (729 * p + b) = F b) ∧ ∀ b, a ≤ b → b < 729 → s 81 0 (729 * p + b) = σ 81 0 (729 * p + b)
theorem row_lp {L : Nat → Int → mS → Option mS} {p N : Nat} {F : Nat → Int} {σ : mS} (hN : 1000 ≤ N) (hs : ∀ f a s, a < 729 → rwI σ s p F a → L (f + 1) (a : Int) s = L f ((a + 1 : Nat) : Int) (mup s 81 0 (729 * p + a) (F a))) (he : ∀ f s, L (f + 1) (729 : Int) s = some s) : ∃ σ', L N 0 σ = some σ' ∧ rwP σ σ' p F := by
  obtain ⟨s1, e, h⟩ := lp_0 (L := L) (I := fun a s => rwI σ s p F a) (P := fun s => rwP σ s p F) 729 (fun f a s ha hI => by
      left
      refine ⟨_, hs f a s ha hI, ?_⟩
      obtain ⟨h1, h2, h3, h4⟩ := hI
      refine ⟨fr_mup h1 (by decide), fun c hc => by rw [mup_k (by omega)]; exact h2 c hc, fun b hb => ?_, fun b hb1 hb2 => by rw [mup_k (by omega)]; exact h4 b (by omega) hb2⟩
      by_cases e : b = a
      · subst e; rw [mup_s]
      · rw [mup_k (by omega)]; exact h3 b (by omega)) (fun f s hI => ⟨s, he f s, hI.1, hI.2.1, hI.2.2.1⟩) (f := N) (s := σ) (by omega) ⟨fr_rfl, fun _ _ => rfl, fun b hb => absurd hb (Nat.not_lt_zero _), fun _ _ _ => rfl⟩
  exact ⟨s1, e, h⟩
theorem RP_rwP {σ σ' : mS} {P : Nat → Nat → Int} {p : Nat} {F A : Nat → Int} (h : RP σ P) (hw : rwP σ σ' p F) (hF : p < 8 → ∀ a, a < 729 → F a = PR A a) : RP σ' (pst P p A) := by
  intro p' hp' a ha
  by_cases e : p' = p
  · subst e; rw [pst_s, hw.2.2 a ha, hF hp' a ha]
  · rw [pst_o _ _ e, hw.2.1 _ (by omega)]; exact h p' hp' a ha
theorem RP_rwP8 {σ σ' : mS} {P : Nat → Nat → Int} {p : Nat} {F : Nat → Int} (h : RP σ P) (hw : rwP σ σ' p F) (hp : 8 ≤ p) : RP σ' P := by
  intro p' hp' a ha
  rw [hw.2.1 _ (by omega)]; exact h p' hp' a ha
theorem X12_clear_eq {N p : Nat} {σ : mS} (hN : 1000 ≤ N) (hp : p < 10) : ∃ σ', f_X12_clear N (p : Int) σ = some σ' ∧ rwP σ σ' p (fun _ => 0) := by
  obtain ⟨s1, e, h⟩ := row_lp (L := fun f a s => L_X12_clear_2 N f (p : Int) a s) (p := p) (F := fun _ => 0) (σ := σ) hN (fun f a s ha _ => by
    try dsimp only
    rw [L_X12_clear_2_s, if_neg (by omega), mw729 hp ha, if_pos (by omega), tN, mw_s (by omega)]) (fun f s => by
    try dsimp only
    rw [L_X12_clear_2_s, if_pos (by omega)])
  refine ⟨s1, ?_, h⟩
  unfold f_X12_clear
  try dsimp only at e
  rw [e]
  rfl
theorem X12_copy_eq {N p q : Nat} {σ : mS} (hN : 1000 ≤ N) (hp : p < 10) (hq : q < 10) (hpq : p ≠ q) : ∃ σ', f_X12_copy N (p : Int) (q : Int) σ = some σ' ∧ rwP σ σ' q (fun a => σ 81 0 (729 * p + a)) := by
  obtain ⟨s1, e, h⟩ := row_lp (L := fun f a s => L_X12_copy_2 N f (p : Int) (q : Int) a s) (p := q) (F := fun a => σ 81 0 (729 * p + a)) (σ := σ) hN (fun f a s ha hI => by
    try dsimp only
    rw [L_X12_copy_2_s, if_neg (by omega), mw729 hp ha, mw729 hq ha, if_pos (by omega), tN, tN, mw_s (by omega), hI.2.1 _ (by omega)]) (fun f s => by
    try dsimp only
    rw [L_X12_copy_2_s, if_pos (by omega)])
  refine ⟨s1, ?_, h⟩
  unfold f_X12_copy
  try dsimp only at e
  rw [e]
  rfl
theorem mx_small {z : Int} (h1 : -4000000000000000000 ≤ z) (h2 : z ≤ 4000000000000000000) : mx z = z := mx_id (by omega) (by omega)
theorem X12_sum_lp {N p q r : Nat} {n m : Int} {P : Nat → Nat → Int} {σ : mS} (hN : 1000 ≤ N) (hp : p < 8) (hq : q < 8) (hr : r < 8) (hP : RP σ P) (hnq : nm (P q)) (hnr : nm (P r)) (hn : mw n = n) (hm : mw m = m) : ∃ σ', L_X12_sum_28 N N (p : Int) (q : Int) n (r : Int) m 0 σ = some σ' ∧ rwP σ σ' p (PR (sumP (P q) (n % 32003) (P r) (m % 32003))) := by
  have rn := mw_rg hn
  have rm := mw_rg hm
  have b1 := md_lt n
  have b2 := md_lt m
  refine row_lp (L := fun f a s => L_X12_sum_28 N f (p : Int) (q : Int) n (r : Int) m a s) (p := p) (F := PR (sumP (P q) (n % 32003) (P r) (m % 32003))) (σ := σ) hN (fun f a s ha hI => ?_) (fun f s => ?_)
  · have old : ∀ p', p' < 8 → s 81 0 (729 * p' + a) = PR (P p') a := fun p' hp' => by
      rw [← hP p' hp' a ha]
      by_cases e : p' = p
      · subst e; exact hI.2.2.2 a (Nat.le_refl _) ha
      · exact hI.2.1 _ (by omega)
    have c1 := PR_rg hnq ha
    have c2 := PR_rg hnr ha
    have a1 := ml_rg c1 b1
    have a2 := ml_rg c2 b2
    try dsimp only
    rw [L_X12_sum_28_s, if_neg (by omega), mw729 (show q < 10 by omega) ha, mw729 (show r < 10 by omega) ha, mw729 (show p < 10 by omega) ha, if_pos (by omega), X12_left_eq (mx_small (by omega) (by omega)), Option.bind_some]
    try dsimp only
    rw [if_pos (by omega), X12_left_eq (mx_small (by omega) (by omega)), Option.bind_some]
    try dsimp only
    rw [tN, tN, old q hq, old r hr, mx_small (z := PR (P q) a * (n % 32003)) (by omega) (by omega), mx_small (z := PR (P r) a * (m % 32003)) (by omega) (by omega), mx_small (by omega) (by omega), X12_left_eq (mx_small (by omega) (by omega)), Option.bind_some]
    try dsimp only
    rw [if_pos (by omega), tN, mw_s (by omega)]
    congr 2
    unfold PR sumP
    by_cases hd : dg a ≤ 8
    · rw [if_pos hd, if_pos hd, if_pos hd]
    · rw [if_neg hd, if_neg hd, if_neg hd]; simp
  · try dsimp only
    rw [L_X12_sum_28_s, if_pos (by omega)]
/-- three loops in one another, over all POWERS -/
theorem tri {S : Type} {N : Nat} (hN : 100 ≤ N) (L1 : Nat → Int → S → Option S) (L2 : Nat → Int → Int → S → Option S) (L3 : Nat → Int → Int → Int → S → Option S) (I : Nat → S → Prop)
    (h3 : ∀ f i j k s, i + j + k ≤ 8 → I (81 * i + 9 * j + k) s → ∃ s', L3 (f + 1) (i : Nat) (j : Nat) (k : Nat) s = L3 f (i : Nat) (j : Nat) ((k + 1 : Nat) : Int) s' ∧ I (81 * i + 9 * j + k + 1) s')
    (h3e : ∀ f (i j k : Nat) s, i + j + k = 9 → L3 (f + 1) (i : Int) (j : Int) (k : Int) s = some s)
    (h2 : ∀ f (i j : Nat) s, i + j ≤ 8 → L2 (f + 1) (i : Int) (j : Int) s = Option.bind (L3 N (i : Int) (j : Int) 0 s) fun s' => L2 f (i : Int) ((j + 1 : Nat) : Int) s')
    (h2e : ∀ f (i j : Nat) s, i + j = 9 → L2 (f + 1) (i : Int) (j : Int) s = some s)
    (h1 : ∀ f (i : Nat) s, i ≤ 8 → L1 (f + 1) (i : Int) s = Option.bind (L2 N (i : Int) 0 s) fun s' => L1 f ((i + 1 : Nat) : Int) s')
    (h1e : ∀ f s, L1 (f + 1) 9 s = some s)
    (hk : ∀ a s, a < 729 → 8 < dg a → I a s → I (a + 1) s) (s : S) (h0 : I 0 s) : ∃ s', L1 N 0 s = some s' ∧ I 729 s' := by
  have skip : ∀ (m a : Nat) s, a + m ≤ 729 → (∀ b, a ≤ b → b < a + m → 8 < dg b) → I a s → I (a + m) s := by
    intro m
    induction m with
    | zero => intro a s _ _ h; exact h
    | succ m ih =>
      intro a s h1 h2 h
      have := ih (a + 1) s (by omega) (fun b q1 q2 => h2 b (by omega) (by omega)) (hk a s (by omega) (h2 a (Nat.le_refl _) (by omega)) h)
      rw [show a + 1 + m = a + (m + 1) from by omega] at this
      exact this
  have in3 : ∀ (i j : Nat) s, i + j ≤ 8 → I (81 * i + 9 * j) s → ∃ s', L3 N (i : Int) (j : Int) 0 s = some s' ∧ I (81 * i + 9 * (j + 1)) s' := by
    intro i j s hij hI
    obtain ⟨s', e, h⟩ := lp_0 (L := fun f k s => L3 f (i : Int) (j : Int) k s) (I := fun k s => I (81 * i + 9 * j + k) s) (P := fun s => I (81 * i + 9 * (j + 1)) s) (9 - i - j) (fun f k s hk2 hI => by
      left
      obtain ⟨s', e, h⟩ := h3 f i j k s (by omega) hI
      exact ⟨s', e, h⟩) (fun f s hI => by
      refine ⟨s, h3e f i j (9 - i - j) s (by omega), ?_⟩
      have := skip (i + j) (81 * i + 9 * j + (9 - i - j)) s (by omega) (fun b q1 q2 => by unfold dg; omega) hI
      rw [show 81 * i + 9 * j + (9 - i - j) + (i + j) = 81 * i + 9 * (j + 1) from by omega] at this
      exact this) (f := N) (s := s) (by omega) hI
    exact ⟨s', e, h⟩
  have in2 : ∀ (i : Nat) s, i ≤ 8 → I (81 * i) s → ∃ s', L2 N (i : Int) 0 s = some s' ∧ I (81 * (i + 1)) s' := by
    intro i s hi hI
    obtain ⟨s', e, h⟩ := lp_0 (L := fun f j s => L2 f (i : Int) j s) (I := fun j s => I (81 * i + 9 * j) s) (P := fun s => I (81 * (i + 1)) s) (9 - i) (fun f j s hj hI => by
      left
      obtain ⟨s', e, h⟩ := in3 i j s (by omega) hI
      refine ⟨s', ?_, h⟩
      try dsimp only
      rw [h2 f i j s (by omega), e, Option.bind_some]) (fun f s hI => by
      refine ⟨s, h2e f i (9 - i) s (by omega), ?_⟩
      have := skip (9 * i) (81 * i + 9 * (9 - i)) s (by omega) (fun b q1 q2 => by unfold dg; omega) hI
      rw [show 81 * i + 9 * (9 - i) + 9 * i = 81 * (i + 1) from by omega] at this
      exact this) (f := N) (s := s) (by omega) hI
    exact ⟨s', e, h⟩
  obtain ⟨s', e, h⟩ := lp_0 (L := fun f i s => L1 f i s) (I := fun i s => I (81 * i) s) (P := fun s => I 729 s) 9 (fun f i s hi hI => by
    left
    obtain ⟨s', e, h⟩ := in2 i s (by omega) hI
    refine ⟨s', ?_, h⟩
    try dsimp only
    rw [h1 f i s (by omega), e, Option.bind_some]) (fun f s hI => ⟨s, h1e f s, hI⟩) (f := N) (s := s) (by omega) h0
  exact ⟨s', e, h⟩
theorem X12_of_eq {N p i j k : Nat} {P : Nat → Nat → Int} {σ : mS} (hp : p < 8) (h : i + j + k ≤ 8) (hP : RP σ P) : f_X12_of_ N (p : Int) (i : Int) (j : Int) (k : Int) σ = some (P p (ixn i j k), σ) := by
  unfold f_X12_of_ f_X12_at
  rw [Option.bind_some]
  try dsimp only
  rw [show mw (mw (mw (81 * (i : Int)) + mw (9 * (j : Int))) + (k : Int)) = ((81 * i + 9 * j + k : Nat) : Int) from (by
    rw [mw_id (z := 81 * (i : Int)) (by omega) (by omega), mw_id (z := 9 * (j : Int)) (by omega) (by omega), mw_id (z := 81 * (i : Int) + 9 * (j : Int)) (by omega) (by omega), mw_id (by omega) (by omega)]; omega), mw729 (show p < 10 by omega) (by omega), if_pos (by omega), tN, hP p hp _ (by omega), ← ax_ixn h, PR_ax _ (ixn_ok h).1]
theorem xa_ijk {i j k : Nat} (h : i + j + k ≤ 8) : xa (81 * i + 9 * j + k) = ixn i j k ∧ dg (81 * i + 9 * j + k) = i + j + k := by
  have e1 : (81 * i + 9 * j + k) / 81 = i := by omega
  have e2' : (81 * i + 9 * j + k) / 9 = 9 * i + j := by omega
  have e2 : (81 * i + 9 * j + k) / 9 % 9 = j := by rw [e2']; omega
  have e3 : (81 * i + 9 * j + k) % 9 = k := by omega
  unfold xa dg
  rw [e1, e2, e3]
  exact ⟨rfl, rfl⟩
def rdF (Q : Nat → Int) : Nat → Int
  | 0 => -1
  | a + 1 => if dg a ≤ 8 ∧ Q (xa a) ≠ 0 ∧ rdF Q a < (dg a : Int) then (dg a : Int) else rdF Q a
theorem rdF_s (Q : Nat → Int) (a : Nat) : rdF Q (a + 1) = if dg a ≤ 8 ∧ Q (xa a) ≠ 0 ∧ rdF Q a < (dg a : Int) then (dg a : Int) else rdF Q a := rfl
theorem rdF_ok {Q : Nat → Int} : ∀ m, ((rdF Q m = -1 ∧ ∀ a, a < m → dg a ≤ 8 → Q (xa a) = 0) ∨ (∃ a, a < m ∧ dg a ≤ 8 ∧ Q (xa a) ≠ 0 ∧ rdF Q m = (dg a : Int) ∧ ∀ b, b < m → dg b ≤ 8 → Q (xa b) ≠ 0 → dg b ≤ dg a))
  | 0 => Or.inl ⟨rfl, fun x h => absurd h (Nat.not_lt_zero _)⟩
  | m + 1 => by
    rw [rdF_s]
    by_cases e : dg m ≤ 8 ∧ Q (xa m) ≠ 0 ∧ rdF Q m < (dg m : Int)
    · rw [if_pos e]
      refine Or.inr ⟨m, by omega, e.1, e.2.1, rfl, fun b hb hd hq => ?_⟩
      by_cases eb : b = m
      · rw [eb]; exact Nat.le_refl _
      · rcases rdF_ok (Q := Q) m with ⟨-, q⟩ | ⟨a, -, -, -, q1, q2⟩
        · exact absurd (q b (by omega) hd) hq
        · have := q2 b (by omega) hd hq
          omega
    · rw [if_neg e]
      rcases rdF_ok (Q := Q) m with ⟨q1, q2⟩ | ⟨a, a1, a2, a3, a4, a5⟩
      · refine Or.inl ⟨q1, fun b hb hd => ?_⟩
        by_cases eb : b = m
        · subst eb
          by_cases q : Q (xa b) = 0
          · exact q
          · exact absurd ⟨hd, q, by omega⟩ e
        · exact q2 b (by omega) hd
      · refine Or.inr ⟨a, by omega, a2, a3, a4, fun b hb hd hq => ?_⟩
        by_cases eb : b = m
        · subst eb
          by_cases q : rdF Q b < (dg b : Int)
          · exact absurd ⟨hd, hq, q⟩ e
          · omega
        · exact a5 b (by omega) hd hq
theorem rdF_pdg (Q : Nat → Int) : rdF Q 729 = pdg Q := by
  rcases rdF_ok (Q := Q) 729 with ⟨q1, q2⟩ | ⟨a, a1, a2, a3, a4, a5⟩ <;> rcases pdg_ok Q with ⟨b1, b2⟩ | ⟨x, c1, c2, c3, c4⟩
  · rw [q1, b1]
  · have := q2 (ax x) (ax_lt c1) (by rw [dg_ax c1]; exact pD_le c1)
    rw [xa_ax c1] at this
    exact absurd this c2
  · exact absurd (b2 _ (xa_lt a1 a2)) a3
  · have u1 := a5 (ax x) (ax_lt c1) (by rw [dg_ax c1]; exact pD_le c1) (by rw [xa_ax c1]; exact c2)
    rw [dg_ax c1] at u1
    have u2 := c4 (xa a) (xa_lt a1 a2) a3
    rw [← dg_ax (xa_lt a1 a2), ax_xa a1 a2] at u2
    rw [a4, c3]
    omega
theorem X12_degree0_eq {N p : Nat} {P : Nat → Nat → Int} {σ : mS} (hN : 1000 ≤ N) (hp : p < 8) (hP : RP σ P) : f_X12_degree0 N (p : Int) σ = some (pdg (P p), σ) := by
  obtain ⟨⟨d, s⟩, e, h⟩ := tri (S := Int × mS) (N := N) (by omega) (fun f i s => L_X12_degree0_4 N f (p : Int) s.1 i s.2) (fun f i j s => L_X12_degree0_13 N f (p : Int) s.1 i j s.2) (fun f i j k s => L_X12_degree0_25 N f (p : Int) s.1 i j k s.2) (fun a s => s = (rdF (P p) a, σ))
    (fun f i j k s h hI => by
      subst hI
      try dsimp only
      obtain ⟨x1, x2⟩ := xa_ijk h
      rw [L_X12_degree0_25_s, show mw (mw ((i : Int) + (j : Int)) + (k : Int)) = ((i + j + k : Nat) : Int) from (by rw [mw_id (z := (i : Int) + (j : Int)) (by omega) (by omega), mw_id (by omega) (by omega)]; omega), if_neg (by omega), X12_of_eq hp h hP, Option.bind_some, mw_s (by omega)]
      try dsimp only
      refine ⟨_, ?_, rfl⟩
      try dsimp only
      rw [rdF_s, x1, x2]
      by_cases q : P p (ixn i j k) = 0
      · rw [if_pos q, if_neg (fun z => z.2.1 q)]
      · rw [if_neg q]
        by_cases q2 : ((i + j + k : Nat) : Int) ≤ rdF (P p) (81 * i + 9 * j + k)
        · rw [if_pos q2, if_neg (fun z => by omega)]
        · rw [if_neg q2, if_pos ⟨h, q, by omega⟩])
    (fun f i j k s h => by
      obtain ⟨d, s⟩ := s
      try dsimp only
      rw [L_X12_degree0_25_s, show mw (mw ((i : Int) + (j : Int)) + (k : Int)) = ((i + j + k : Nat) : Int) from (by rw [mw_id (z := (i : Int) + (j : Int)) (by omega) (by omega), mw_id (by omega) (by omega)]; omega), if_pos (by omega)])
    (fun f i j s h => by
      obtain ⟨d, s⟩ := s
      try dsimp only
      rw [L_X12_degree0_13_s, show mw ((i : Int) + (j : Int)) = ((i + j : Nat) : Int) from (by rw [mw_id (by omega) (by omega)]; omega), if_neg (by omega), mw_s (by omega)])
    (fun f i j s h => by
      obtain ⟨d, s⟩ := s
      try dsimp only
      rw [L_X12_degree0_13_s, show mw ((i : Int) + (j : Int)) = ((i + j : Nat) : Int) from (by rw [mw_id (by omega) (by omega)]; omega), if_pos (by omega)])
    (fun f i s h => by
      obtain ⟨d, s⟩ := s
      try dsimp only
      rw [L_X12_degree0_4_s, if_neg (by omega), mw_s (by omega)])
    (fun f s => by
      obtain ⟨d, s⟩ := s
      try dsimp only
      rw [L_X12_degree0_4_s, if_pos (by omega)])
    (fun a s h1 h2 hI => by
      rw [hI, rdF_s, if_neg (fun z => by omega)]) (-1, σ) rfl
  try dsimp only at e
  rw [rdF_pdg] at h
  cases h
  unfold f_X12_degree0
  rw [e]
  rfl
