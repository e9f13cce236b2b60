/-! the class's polynomials: degrees, sums, products -/
def CP (σ : mS) (P : Nat → Nat → Int) : Prop := ∀ p, p < 8 → ∀ x, x < 165 → σ 33 p x = P p x
/-- numbers of a polynomial -/
def nm (Q : Nat → Int) : Prop := ∀ x, x < 165 → 0 ≤ Q x ∧ Q x < 32003
def pst (P : Nat → Nat → Int) (p : Nat) (A : Nat → Int) (p' : Nat) : Nat → Int := if p' = p then A else P p'
theorem pst_s (P : Nat → Nat → Int) (p : Nat) (A : Nat → Int) : pst P p A p = A := if_pos rfl
theorem pst_o (P : Nat → Nat → Int) {p p' : Nat} (A : Nat → Int) (h : p' ≠ p) : pst P p A p' = P p' := if_neg h
def pdgF (Q : Nat → Int) : Nat → Int
  | 0 => -1
  | x + 1 => if Q x = 0 then pdgF Q x else (pD x : Int)
def pdg (Q : Nat → Int) : Int := pdgF Q 165
theorem pdgF_s (Q : Nat → Int) (x : Nat) : pdgF Q (x + 1) = if Q x = 0 then pdgF Q x else (pD x : Int) := rfl
theorem pdgF_cg {Q R : Nat → Int} : ∀ m, (∀ x, x < m → Q x = R x) → pdgF Q m = pdgF R m
  | 0, _ => rfl
  | m + 1, h => by rw [pdgF_s, pdgF_s, h m (by omega), pdgF_cg m (fun x hx => h x (by omega))]
theorem X6_degreeOf_eq {N p : Nat} {Q : Nat → Int} {σ : mS} (hN : 1000 ≤ N) (H : CPw σ) (hp : p < 8) (hQ : ∀ x, x < 165 → σ 33 p x = Q x) : f_X6_degreeOf N (p : Int) σ = some (pdg Q, σ) := by
  have lp : ∀ (j f : Nat), j < f → j ≤ 165 → L_X6_degreeOf_4 N f (p : Int) ((j : Int) - 1) σ = some (if pdgF Q j = -1 then .inr σ else .inl (pdgF Q j, σ)) := by
    intro j
    induction j with
    | zero =>
      intro f hf _
      obtain ⟨f, rfl⟩ : ∃ f', f = f' + 1 := ⟨f - 1, by omega⟩
      rw [L_X6_degreeOf_4_s, if_pos (by omega)]
      rfl
    | succ j ih =>
      intro f hf hj
      obtain ⟨f, rfl⟩ : ∃ f', f = f' + 1 := ⟨f - 1, by omega⟩
      rw [L_X6_degreeOf_4_s, if_neg (by omega), if_pos (by omega), tN, show ((((j + 1 : Nat) : Int) - 1)).toNat = j from by omega, hQ j (by omega), show mw ((((j + 1 : Nat) : Int) - 1) + (-1)) = (j : Int) - 1 from (by rw [mw_id (by omega) (by omega)]; omega), pdgF_s]
      by_cases e : Q j = 0
      · rw [if_pos e, if_pos e]; exact ih f (by omega) (by omega)
      · rw [if_neg e, if_neg e, if_pos (by omega), (H j (by omega)).2, if_neg (by omega)]
  unfold f_X6_degreeOf pdg
  rw [show (164 : Int) = ((165 : Nat) : Int) - 1 from rfl, lp 165 N (by omega) (Nat.le_refl _), Option.bind_some]
  by_cases e : pdgF Q 165 = -1
  · rw [if_pos e, e]
  · rw [if_neg e]
theorem pdgF_rg {Q : Nat → Int} : ∀ m, m ≤ 165 → -1 ≤ pdgF Q m ∧ pdgF Q m ≤ 8
  | 0, _ => by unfold pdgF; omega
  | m + 1, h => by
    rw [pdgF_s]
    have := pdgF_rg (Q := Q) m (by omega)
    have := pD_le (x := m) (by omega)
    split <;> omega
theorem pdg_rg (Q : Nat → Int) : -1 ≤ pdg Q ∧ pdg Q ≤ 8 := pdgF_rg 165 (Nat.le_refl _)
theorem pD_mono : ∀ x ∈ List.range 164, pD x ≤ pD (x + 1) := by decide +kernel
theorem pD_le_of {x y : Nat} (h : x ≤ y) (hy : y < 165) : pD x ≤ pD y := by
  induction y with
  | zero =>
    have : x = 0 := by omega
    rw [this]
    exact Nat.le_refl _
  | succ y ih =>
    by_cases e : x = y + 1
    · rw [e]; exact Nat.le_refl _
    · exact Nat.le_trans (ih (by omega) (by omega)) (pD_mono y (List.mem_range.mpr (by omega)))
/-- the degree: of one that is not 0, and none is above -/
theorem pdgF_ok {Q : Nat → Int} : ∀ m, m ≤ 165 → ((pdgF Q m = -1 ∧ ∀ x, x < m → Q x = 0) ∨ (∃ x, x < m ∧ Q x ≠ 0 ∧ pdgF Q m = (pD x : Int) ∧ ∀ y, y < m → Q y ≠ 0 → pD y ≤ pD x))
  | 0, _ => Or.inl ⟨rfl, fun x h => absurd h (Nat.not_lt_zero _)⟩
  | m + 1, h => by
    rw [pdgF_s]
    by_cases e : Q m = 0
    · rw [if_pos e]
      rcases pdgF_ok (Q := Q) m (by omega) with ⟨a, b⟩ | ⟨x, a, b, c, d⟩
      · refine Or.inl ⟨a, fun x hx => ?_⟩
        by_cases ex : x = m
        · rw [ex]; exact e
        · exact b x (by omega)
      · refine Or.inr ⟨x, by omega, b, c, fun y hy hq => ?_⟩
        by_cases ey : y = m
        · rw [ey] at hq; exact absurd e hq
        · exact d y (by omega) hq
    · rw [if_neg e]
      exact Or.inr ⟨m, by omega, e, rfl, fun y hy _ => pD_le_of (by omega) (by omega)⟩
theorem pdg_ok (Q : Nat → Int) : (pdg Q = -1 ∧ ∀ x, x < 165 → Q x = 0) ∨ (∃ x, x < 165 ∧ Q x ≠ 0 ∧ pdg Q = (pD x : Int) ∧ ∀ y, y < 165 → Q y ≠ 0 → pD y ≤ pD x) := pdgF_ok 165 (Nat.le_refl _)
theorem pdg_le {Q : Nat → Int} {x : Nat} (hx : x < 165) (h : Q x ≠ 0) : (pD x : Int) ≤ pdg Q := by
  rcases pdg_ok Q with ⟨a, b⟩ | ⟨y, a, b, c, d⟩
  · exact absurd (b x hx) h
  · rw [c]; have := d x hx h; omega
def sumP (Q : Nat → Int) (n : Int) (R : Nat → Int) (m : Int) (x : Nat) : Int := (Q x * n + R x * m) % 32003
theorem ml_rg {a b : Int} (ha : 0 ≤ a ∧ a < 32003) (hb : 0 ≤ b ∧ b < 32003) : 0 ≤ a * b ∧ a * b ≤ 1024128004 := by
  have h1 := Int.mul_nonneg ha.1 hb.1
  have h2 : a * b ≤ 32002 * 32002 := Int.mul_le_mul (by omega) (by omega) hb.1 (by decide)
  omega
theorem X6_combine_eq {N p q r : Nat} {n m : Int} {P : Nat → Nat → Int} {σ : mS} (hN : 1000 ≤ N) (hp : p < 8) (hq : q < 8) (hr : r < 8) (hP : CP σ P) (hnq : nm (P q)) (hnr : nm (P r)) (hn : 0 ≤ n ∧ n < 32003) (hm : 0 ≤ m ∧ m < 32003) :
    ∃ σ', f_X6_combine N (p : Int) (q : Int) n (r : Int) m σ = some σ' ∧ fr [33] σ σ' ∧ CP σ' (pst P p (sumP (P q) n (P r) m)) := by
  obtain ⟨s1, e, h1, h2, h3⟩ := lp_0 (L := fun f x s => L_X6_combine_3 N f (p : Int) (q : Int) n (r : Int) m x s) (I := fun x s => fr [33] σ s ∧ (∀ p', p' < 8 → p' ≠ p → ∀ y, y < 165 → s 33 p' y = P p' y) ∧ ∀ y, y < 165 → s 33 p y = if y < x then sumP (P q) n (P r) m y else P p y)
    (P := fun s => fr [33] σ s ∧ (∀ p', p' < 8 → p' ≠ p → ∀ y, y < 165 → s 33 p' y = P p' y) ∧ ∀ y, y < 165 → s 33 p y = if y < 165 then sumP (P q) n (P r) m y else P p y) 165 (fun f x s hx hI => by
      obtain ⟨h1, h2, h3⟩ := hI
      left
      have old : ∀ p', p' < 8 → s 33 p' x = P p' x := fun p' hp' => by
        by_cases ep : p' = p
        · subst ep; rw [h3 x hx, if_neg (by omega)]
        · exact h2 p' hp' ep x hx
      have a1 := ml_rg (hnq x hx) hn
      have a2 := ml_rg (hnr x hx) hm
      have b1 := md_lt (P q x * n)
      have b2 := md_lt (P r x * m)
      try dsimp only
      rw [L_X6_combine_3_s, if_neg (by omega), if_pos (by omega), tN, tN, tN, tN, old q hq, old r hr, rem_md a1.1 (by omega), rem_md a2.1 (by omega), rem_md (by omega) (by omega), md_add, mw_s (by omega)]
      refine ⟨_, rfl, fr_mup h1 (by decide), fun p' hp' ep y hy => by rw [mup_i ep]; exact h2 p' hp' ep y hy, fun y hy => ?_⟩
      by_cases ey : y = x
      · subst ey; rw [mup_s, if_pos (by omega)]; rfl
      · rw [mup_k ey, h3 y hy]
        by_cases q1 : y < x
        · rw [if_pos q1, if_pos (by omega)]
        · rw [if_neg q1, if_neg (by omega)]) (fun f s hI => by
      refine ⟨s, ?_, hI⟩
      try dsimp only
      rw [L_X6_combine_3_s, if_pos (by omega)]) (f := N) (s := σ) (by omega) ⟨fr_rfl, fun p' hp' _ y hy => hP p' hp' y hy, fun y hy => by rw [if_neg (by omega)]; exact hP p hp y hy⟩
  refine ⟨s1, ?_, h1, fun p' hp' x hx => ?_⟩
  · unfold f_X6_combine
    try dsimp only at e
    rw [e]
    rfl
  · by_cases ep : p' = p
    · subst ep; rw [pst_s, h3 x hx, if_pos hx]
    · rw [pst_o _ _ ep]; exact h2 p' hp' ep x hx
theorem X6_keep_eq {N p : Nat} {P : Nat → Nat → Int} {A : Nat → Int} {σ : mS} (hp : p < 8) (hP : CP σ P) (hA : ∀ k, k < 165 → σ 34 0 k = A k) : ∃ σ', f_X6_keepAside N (p : Int) σ = some σ' ∧ fr [33] σ σ' ∧ CP σ' (pst P p (A)) := by
  unfold f_X6_keepAside
  rw [if_pos (by omega), tN]
  refine ⟨_, rfl, fr_mcp fr_rfl (by decide), fun p' hp' x hx => ?_⟩
  by_cases ep : p' = p
  · subst ep
    rw [pst_s, ← hA x hx]
    exact mcp_in (n := 165) hx
  · rw [pst_o _ _ ep, mcp_r (Or.inr ep)]; exact hP p' hp' x hx
/-- products at place k, of the first numbers -/
def mlr (R : Nat → Int) (z : Int) (x k Y : Nat) : Int := sm (fun y => if ax x + ax y = ax k then z * R y else 0) Y
def mlp (Q R : Nat → Int) (k X : Nat) : Int := sm (fun x => mlr R (Q x) x k 165) X
theorem ax_pr {x y : Nat} (h : pD x + pD y ≤ 8) : ax (ixn (pI x + pI y) (pJ x + pJ y) (pK x + pK y)) = ax x + ax y := by
  unfold pD at h
  rw [ax_ixn (by omega)]
  unfold ax
  omega
theorem sm_to {F : Nat → Int} {m : Nat} : ∀ n, m ≤ n → (∀ k, m ≤ k → k < n → F k = 0) → sm F n = sm F m
  | 0, h, _ => by
    have : m = 0 := by omega
    rw [this]
  | n + 1, h, hz => by
    by_cases e : m = n + 1
    · rw [e]
    · rw [sm_s, hz n (by omega) (by omega), Int.add_zero, sm_to n (by omega) (fun k h1 h2 => hz k h1 (by omega))]
def fst9 (d : Nat) : Nat := d * (d + 1) * (d + 2) / 6
theorem fst_ok : ∀ d ∈ List.range 10, fst9 d ≤ 165 ∧ ∀ x ∈ List.range 165, (x < fst9 d ↔ pD x < d) := by decide +kernel
theorem X6_mul_in {N p q r x Y : Nat} {z : Int} {R S : Nat → Int} {σ : mS} (hN : 1000 ≤ N) (H : CPw σ) (hr : r < 8) (hx : x < 165) (hz : 0 ≤ z ∧ z < 32003) (hY : Y ≤ 165) (hR : ∀ y, y < 165 → σ 33 r y = R y ∧ 0 ≤ R y ∧ R y < 32003) (hR0 : ∀ y, y < 165 → Y ≤ y → R y = 0) (hS : ∀ k, k < 165 → σ 34 0 k = S k % 32003) (hd : ∀ y, y < 165 → z ≠ 0 → R y ≠ 0 → pD x + pD y ≤ 8) :
    ∃ σ', L_X6_multiply_45 N N (p : Int) (q : Int) (r : Int) (Y : Int) (x : Int) z 0 σ = some σ' ∧ fr [34] σ σ' ∧ ∀ k, k < 165 → σ' 34 0 k = (S k + mlr R z x k 165) % 32003 := by
  by_cases e0 : z = 0
  · obtain ⟨K, hK⟩ : ∃ K, N = K + 1 := ⟨N - 1, by omega⟩
    subst e0
    refine ⟨σ, ?_, fr_rfl, fun k hk => ?_⟩
    · rw [show L_X6_multiply_45 N N (p : Int) (q : Int) (r : Int) (Y : Int) (x : Int) 0 0 σ = L_X6_multiply_45 N (K + 1) (p : Int) (q : Int) (r : Int) (Y : Int) (x : Int) 0 0 σ from by rw [← hK], L_X6_multiply_45_s, if_pos rfl]
    · rw [hS k hk, show mlr R 0 x k 165 = 0 from sm_z (fun y _ => by simp), Int.add_zero]
  · obtain ⟨s1, e, h1, h2⟩ := lp_0 (L := fun f y s => L_X6_multiply_45 N f (p : Int) (q : Int) (r : Int) (Y : Int) (x : Int) z y s) (I := fun y s => fr [34] σ s ∧ ∀ k, k < 165 → s 34 0 k = (S k + mlr R z x k y) % 32003)
      (P := fun s => fr [34] σ s ∧ ∀ k, k < 165 → s 34 0 k = (S k + mlr R z x k Y) % 32003) Y (fun f y s hy hI => by
        obtain ⟨h1, h2⟩ := hI
        left
        obtain ⟨q1, q2⟩ := hR y (by omega)
        have H1 := CPw_ag H (ag_fr h1 (by decide))
        have hq1 : s 33 r y = R y := by rw [h1 33 _ _ (by decide)]; exact q1
        try dsimp only
        rw [L_X6_multiply_45_s, if_neg e0, if_neg (by omega), if_pos (by omega), tN, tN, hq1, mw_s (by omega)]
        by_cases e1 : R y = 0
        · rw [if_pos e1]
          refine ⟨_, rfl, h1, fun k hk => ?_⟩
          rw [h2 k hk]
          show _ = (S k + (mlr R z x k y + (if ax x + ax y = ax k then z * R y else 0))) % 32003
          rw [e1]
          simp
        · have hdd := hd y (by omega) e0 e1
          have hpr := ax_pr hdd
          have hix := (ixn_ok (i := pI x + pI y) (j := pJ x + pJ y) (k := pK x + pK y) (by unfold pD at hdd; omega)).1
          generalize hg : ixn (pI x + pI y) (pJ x + pJ y) (pK x + pK y) = w at hpr hix
          have a1 := ml_rg hz q2
          have hm := md_lt (z * R y)
          have ha := h2 w hix
          have hm2 := md_lt (S w + mlr R z x w y)
          rw [if_neg e1, X7_product_eq H1 hx (by omega) hdd, hg, Option.bind_some]
          try dsimp only
          rw [if_pos (by omega), hq1, rem_md a1.1 (by omega), X6_addAside_eq hix (by rw [ha]; exact hm2) hm, Option.bind_some, ha, md_add]
          refine ⟨_, rfl, fr_mup h1 (by decide), fun k hk => ?_⟩
          show _ = (S k + (mlr R z x k y + (if ax x + ax y = ax k then z * R y else 0))) % 32003
          by_cases ek : k = w
          · subst ek
            rw [mup_s, if_pos hpr.symm, Int.add_assoc]
          · rw [mup_k ek, if_neg (fun y' => ek (ax_inj hk hix (by rw [hpr]; exact y'.symm))), Int.add_zero, h2 k hk]) (fun f s hI => by
        refine ⟨s, ?_, hI⟩
        try dsimp only
        rw [L_X6_multiply_45_s, if_neg e0, if_pos (by omega)]) (f := N) (s := σ) (by omega) ⟨fr_rfl, fun k hk => by rw [hS k hk]; show S k % 32003 = (S k + 0) % 32003; rw [Int.add_zero]⟩
    refine ⟨s1, e, h1, fun k hk => ?_⟩
    rw [h2 k hk, show mlr R z x k 165 = mlr R z x k Y from sm_to 165 hY (fun y h3 h4 => by rw [hR0 y h4 h3]; simp)]
def mulP (Q R : Nat → Int) (k : Nat) : Int := mlp Q R k 165 % 32003
theorem X6_multiply_eq {N p q r : Nat} {P : Nat → Nat → Int} {σ : mS} (hN : 1000 ≤ N) (H : CPw σ) (hp : p < 8) (hq : q < 8) (hr : r < 8) (hP : CP σ P) (hnq : nm (P q)) (hnr : nm (P r)) (hd : pdg (P q) + pdg (P r) ≤ 8) :
    ∃ σ', f_X6_multiply N (p : Int) (q : Int) (r : Int) σ = some σ' ∧ fr [33, 34] σ σ' ∧ CP σ' (pst P p (mulP (P q) (P r))) := by
  generalize hs0 : msv σ 34 0 165 0 = s0
  have f0 : fr [34] σ s0 := by
    subst hs0
    intro r' i k hr'
    unfold msv
    rw [if_neg (fun z => hr' (by rw [z.1]; decide))]
  have z0 : ∀ k, k < 165 → s0 34 0 k = 0 := fun k hk => by
    subst hs0
    unfold msv
    rw [if_pos ⟨rfl, rfl, hk⟩]
  have H0 := CPw_ag H (ag_fr f0 (by decide))
  have P0 : CP s0 P := fun p' hp' x hx => by rw [f0 33 _ _ (by decide)]; exact hP p' hp' x hx
  have hrg := pdg_rg (P r)
  obtain ⟨d, hd1⟩ : ∃ d : Nat, pdg (P r) + 1 = (d : Int) := ⟨(pdg (P r) + 1).toNat, by omega⟩
  obtain ⟨fo1, fo2⟩ := fst_ok d (List.mem_range.mpr (by omega))
  have hR0 : ∀ y, y < 165 → fst9 d ≤ y → P r y = 0 := fun y hy hle => by
    by_cases e : P r y = 0
    · exact e
    · have := pdg_le hy e
      have := (fo2 y (List.mem_range.mpr hy)).mpr (by omega)
      omega
  obtain ⟨s1, e, h1, h2⟩ := lp_0 (L := fun f x s => L_X6_multiply_23 N f (p : Int) (q : Int) (r : Int) ((fst9 d : Nat) : Int) x s) (I := fun x s => fr [34] s0 s ∧ ∀ k, k < 165 → s 34 0 k = mlp (P q) (P r) k x % 32003)
    (P := fun s => fr [34] s0 s ∧ ∀ k, k < 165 → s 34 0 k = mulP (P q) (P r) k) 165 (fun f x s hx hI => by
      obtain ⟨h1, h2⟩ := hI
      left
      have H1 := CPw_ag H0 (ag_fr h1 (by decide))
      have hq1 : s 33 q x = P q x := by rw [h1 33 _ _ (by decide)]; exact P0 q hq x hx
      obtain ⟨s2, r1, r2, r3⟩ := X6_mul_in (N := N) (p := p) (q := q) (r := r) (x := x) (Y := fst9 d) (z := P q x) (R := P r) (S := fun k => mlp (P q) (P r) k x) (σ := s) hN H1 hr hx (hnq x hx) fo1 (fun y hy => ⟨by rw [h1 33 _ _ (by decide)]; exact P0 r hr y hy, hnr y hy⟩) hR0 h2 (fun y hy hz hR => by
        have := pdg_le hx hz
        have := pdg_le hy hR
        omega)
      try dsimp only
      rw [L_X6_multiply_23_s, if_neg (by omega), if_pos (by omega), tN, tN, hq1, r1, Option.bind_some, mw_s (by omega)]
      exact ⟨s2, rfl, fr_trans h1 r2, r3⟩) (fun f s hI => by
      refine ⟨s, ?_, hI⟩
      try dsimp only
      rw [L_X6_multiply_23_s, if_pos (by omega)]) (f := N) (s := s0) (by omega) ⟨fr_rfl, fun k hk => z0 k hk⟩
  obtain ⟨s2, k1, k2, k3⟩ := X6_keep_eq (N := N) (p := p) (P := P) (A := mulP (P q) (P r)) (σ := s1) hp (fun p' hp' x hx => by rw [h1 33 _ _ (by decide)]; exact P0 p' hp' x hx) h2
  refine ⟨s2, ?_, fr_trans (fr_sub f0 (fun r hr => by simp at hr ⊢; omega)) (fr_trans (fr_sub h1 (fun r hr => by simp at hr ⊢; omega)) (fr_sub k2 (fun r hr => by simp at hr ⊢; omega))), k3⟩
  unfold f_X6_multiply
  rw [fill_r34 hN, hs0, Option.bind_some, X6_degreeOf_eq hN H0 hr (P0 r hr), Option.bind_some]
  try dsimp only
  rw [hd1, mw_id (by omega) (by omega), X7_firstOf_eq (by omega), Option.bind_some]
  try dsimp only at e ⊢
  rw [show d * (d + 1) * (d + 2) / 6 = fst9 d from rfl, e, Option.bind_some, k1]
  rfl
theorem X6_turnInto_eq {N p q y : Nat} {t : tn} {P : Nat → Nat → Int} {σ : mS} (hN : 1000 ≤ N) (H : CPw σ) (hp : p < 8) (hq : q < 8) (hP : CP σ P) (hnq : nm (P q)) (ht : tok t) (he : elC σ y = t) :
    ∃ σ', f_X6_turnInto_r7 N (p : Int) (q : Int) y σ = some σ' ∧ fr [33, 34, 41] σ σ' ∧ CP σ' (pst P p ((fun k => tvp t 1 (P q) 165 k % 32003))) := by
  generalize hs0 : msv σ 34 0 165 0 = s0
  have f0 : fr [34] σ s0 := by
    subst hs0
    intro r' i k hr'
    unfold msv
    rw [if_neg (fun z => hr' (by rw [z.1]; decide))]
  have z0 : ∀ k, k < 165 → s0 34 0 k = 0 := fun k hk => by
    subst hs0
    unfold msv
    rw [if_pos ⟨rfl, rfl, hk⟩]
  have H0 := CPw_ag H (ag_fr f0 (by decide))
  obtain ⟨s1, r1, r2, r3⟩ := X6_addTurned_eq (N := N) (q := q) (y := y) (t := t) (s := 1) (Q := P q) (S := fun _ => 0) (σ := s0) hN H0 ht (by
    rw [← he]; unfold elC
    rw [f0 7 _ _ (by decide), f0 7 _ _ (by decide), f0 7 _ _ (by decide)]) (Or.inl rfl) (fun x hx => ⟨by rw [f0 33 _ _ (by decide)]; exact hP q hq x hx, hnq x hx⟩) (fun k hk => z0 k hk)
  obtain ⟨s2, k1, k2, k3⟩ := X6_keep_eq (N := N) (p := p) (P := P) (A := fun k => tvp t 1 (P q) 165 k % 32003) (σ := s1) hp (fun p' hp' x hx => by rw [r2 33 _ _ (by decide), f0 33 _ _ (by decide)]; exact hP p' hp' x hx) (fun k hk => by rw [r3 k hk]; show (0 + tvp t 1 (P q) 165 k) % 32003 = _; rw [Int.zero_add])
  refine ⟨s2, ?_, fr_trans (fr_sub f0 (fun r hr => by simp at hr ⊢; omega)) (fr_trans (fr_sub r2 (fun r hr => by simp at hr ⊢; omega)) (fr_sub k2 (fun r hr => by simp at hr ⊢; omega))), k3⟩
  unfold f_X6_turnInto_r7
  rw [fill_r34 hN, hs0, Option.bind_some, if_pos (by omega), tN, r1, Option.bind_some, k1]
  rfl
/-- the mean's numerator -/
def mnp (E : Nat → tn) (sg : Nat → Int) (Q : Nat → Int) (k n : Nat) : Int := sm (fun g => tvp (E g) (sg g) Q 165 k) n
def meanP (E : Nat → tn) (n : Nat) (sg : Nat → Int) (Q : Nat → Int) (k : Nat) : Int := mnp E sg Q k n * (iv n : Int) % 32003
theorem md_mul (a b : Int) : a % 32003 * b % 32003 = a * b % 32003 := by rw [Int.mul_emod, Int.emod_emod, ← Int.mul_emod]
theorem X6_average_eq {N p q c n : Nat} {E : Nat → tn} {sg : Nat → Int} {P : Nat → Nat → Int} {σ : mS} (hN : 1000 ≤ N) (H : CPw σ) (hp : p < 8) (hq : q < 8) (hP : CP σ P) (hnq : nm (P q)) (hn : σ 5 0 0 = (n : Int)) (hG : GP E n) (hE : ∀ g, g < n → elC σ g = E g) (hsg : ∀ g, g < n → σ 28 c g = sg g ∧ (sg g = 1 ∨ sg g = -1)) :
    ∃ σ', f_X6_averageInto_r28 N (p : Int) (q : Int) c σ = some σ' ∧ fr [33, 34, 41] σ σ' ∧ CP σ' (pst P p (meanP E n sg (P q))) := by
  have h48 : n ≤ 48 := few48 hG.2.2.1 hG.2.2.2.1
  generalize hs0 : msv σ 34 0 165 0 = s0
  have f0 : fr [34] σ s0 := by
    subst hs0
    intro r' i k hr'
    unfold msv
    rw [if_neg (fun z => hr' (by rw [z.1]; decide))]
  have z0 : ∀ k, k < 165 → s0 34 0 k = 0 := fun k hk => by
    subst hs0
    unfold msv
    rw [if_pos ⟨rfl, rfl, hk⟩]
  have f0' : fr [34, 41] σ s0 := fr_sub f0 (fun r hr => by simp at hr ⊢; omega)
  obtain ⟨s1, e, h1, h2⟩ := lp_0 (L := fun f g s => L_X6_averageInto_r28_11 N f (p : Int) (q : Int) c g s) (I := fun g s => fr [34, 41] σ s ∧ ∀ k, k < 165 → s 34 0 k = mnp E sg (P q) k g % 32003)
    (P := fun s => fr [34, 41] σ s ∧ ∀ k, k < 165 → s 34 0 k = mnp E sg (P q) k n % 32003) n (fun f g s hg hI => by
      obtain ⟨h1, h2⟩ := hI
      left
      have H1 := CPw_ag H (ag_fr h1 (by decide))
      obtain ⟨g1, g2⟩ := hsg g hg
      obtain ⟨s2, r1, r2, r3⟩ := X6_addTurned_eq (N := N) (q := q) (y := g) (t := E g) (s := sg g) (Q := P q) (S := fun k => mnp E sg (P q) k g) (σ := s) hN H1 (hG.2.2.1 g hg) (by
        rw [← hE g hg]; unfold elC
        rw [h1 7 _ _ (by decide), h1 7 _ _ (by decide), h1 7 _ _ (by decide)]) g2 (fun x hx => ⟨by rw [h1 33 _ _ (by decide)]; exact hP q hq x hx, hnq x hx⟩) h2
      try dsimp only
      rw [L_X6_averageInto_r28_11_s, h1 5 _ _ (by decide), hn, if_neg (by omega), if_pos (by omega), tN, tN, h1 28 _ _ (by decide), g1, r1, Option.bind_some, mw_s (by omega)]
      exact ⟨s2, rfl, fr_trans h1 r2, r3⟩) (fun f s hI => by
      refine ⟨s, ?_, hI⟩
      try dsimp only
      rw [L_X6_averageInto_r28_11_s, hI.1 5 _ _ (by decide), hn, if_pos (by omega)]) (f := N) (s := s0) (by omega) ⟨f0', fun k hk => z0 k hk⟩
  have hiv := iv_lt n
  obtain ⟨s2, e2, h3, h4, h5⟩ := lp_0 (L := fun f x s => L_X6_averageInto_r28_60 N f (p : Int) (iv n : Int) x s) (I := fun x s => fr [34] s1 s ∧ (∀ k, k < x → s 34 0 k = meanP E n sg (P q) k) ∧ ∀ k, x ≤ k → s 34 0 k = s1 34 0 k)
    (P := fun s => fr [34] s1 s ∧ (∀ k, k < 165 → s 34 0 k = meanP E n sg (P q) k) ∧ True) 165 (fun f x s hx hI => by
      obtain ⟨h3, h4, h5⟩ := hI
      left
      have hm := md_lt (mnp E sg (P q) x n)
      have a1 := ml_rg hm (show 0 ≤ (iv n : Int) ∧ (iv n : Int) < 32003 by omega)
      try dsimp only
      rw [L_X6_averageInto_r28_60_s, if_neg (by omega), if_pos (by omega), tN, h5 x (Nat.le_refl _), h2 x hx, rem_md a1.1 (by omega), md_mul, mw_s (by omega)]
      refine ⟨_, rfl, fr_mup h3 (by decide), fun k hk => ?_, fun k hk => ?_⟩
      · by_cases ek : k = x
        · subst ek; rw [mup_s]; rfl
        · rw [mup_k ek]; exact h4 k (by omega)
      · rw [mup_k (by omega)]; exact h5 k (by omega)) (fun f s hI => by
      refine ⟨s, ?_, hI.1, hI.2.1, trivial⟩
      try dsimp only
      rw [L_X6_averageInto_r28_60_s, if_pos (by omega)]) (f := N) (s := s1) (by omega) ⟨fr_rfl, fun k hk => absurd hk (Nat.not_lt_zero _), fun _ _ => rfl⟩
  obtain ⟨s3, k1, k2, k3⟩ := X6_keep_eq (N := N) (p := p) (P := P) (A := meanP E n sg (P q)) (σ := s2) hp (fun p' hp' x hx => by rw [h3 33 _ _ (by decide), h1 33 _ _ (by decide)]; exact hP p' hp' x hx) h4
  refine ⟨s3, ?_, fr_trans (fr_sub h1 (fun r hr => by simp at hr ⊢; omega)) (fr_trans (fr_sub h3 (fun r hr => by simp at hr ⊢; omega)) (fr_sub k2 (fun r hr => by simp at hr ⊢; omega))), k3⟩
  unfold f_X6_averageInto_r28
  try dsimp only at e e2
  rw [fill_r34 hN, hs0, Option.bind_some, e, Option.bind_some, h1 5 _ _ (by decide), hn, X11_inverse_eq (by omega) (by omega), Option.bind_some]
  try dsimp only
  rw [e2, Option.bind_some, k1]
  rfl
