/-! SERIES: class and reference -/
/-- the class's row bears r up to d -/
def S30 (σ : mS) (r : Nat → Int) (d : Nat) : Prop := ∀ k, k ≤ d → σ 30 0 k = r k
theorem X4_in {N d x m j : Nat} {s_ : Int} {r : Nat → Int} {σ : mS} (hN : 1000 ≤ N) (hd : d ≤ 200) (hx : x < 3) (hm : 0 < m) (hm3 : m ≤ 3) (hs : s_ = 1 ∨ s_ = -1) (hj : j ≤ 2) (h25 : σ 25 0 x = s_) (hr : S30 σ r d) (hb : ∀ k, k ≤ 200 → -p201 j ≤ r k ∧ r k ≤ p201 j) : ∃ σ', L_X4_oneByD_r7_45 N N (d : Int) (x : Int) (m : Int) (m : Int) σ = some σ' ∧ fr [30] σ σ' ∧ S30 σ' (ps m s_ r) d := by
  have hb2 := ps_bd2 hm hs hb
  have hpj := p201_le (j := j + 1) (by omega)
  have hpj2 : p201 (j + 1) = p201 j * 201 := rfl
  have hpj0 : 0 ≤ p201 j := by
    have : j = 0 ∨ j = 1 ∨ j = 2 := by omega
    rcases this with rfl | rfl | rfl <;> decide
  by_cases hmd : m ≤ d
  · obtain ⟨s1, e, h1, h2⟩ := lp_up (L := fun f k s => L_X4_oneByD_r7_45 N f (d : Int) (x : Int) (m : Int) k s) (I := fun k s => m ≤ k ∧ fr [30] σ s ∧ (∀ k', k' < k → k' ≤ d → s 30 0 k' = ps m s_ r k') ∧ ∀ k', k ≤ k' → k' ≤ d → s 30 0 k' = r k')
      (P := fun s => fr [30] σ s ∧ S30 s (ps m s_ r) d) (d + 1) (fun f k s hk hI => by
        obtain ⟨h0, h1, h2, h3⟩ := hI
        left
        have b1 := hb k (by omega)
        have b2 := hb2 (k - m) (by omega)
        have b3 := hb2 k (by omega)
        rw [← hpj2] at b2 b3
        have hst : r k + s_ * ps m s_ r (k - m) = ps m s_ r k := (ps_ge hm (by omega)).symm
        have x1 : mw ((k : Int) - (m : Int)) = ((k - m : Nat) : Int) := by rw [mw_id (by omega) (by omega)]; omega
        have x2 : mw (s_ * ps m s_ r (k - m)) = s_ * ps m s_ r (k - m) := by rcases hs with rfl | rfl <;> exact mw_id (by omega) (by omega)
        try dsimp only
        rw [L_X4_oneByD_r7_45_s, if_neg (by omega), x1, if_pos (by omega), tN, tN, tN, h1 25 _ _ (by decide), h25, h3 k (Nat.le_refl _) (by omega), h2 (k - m) (by omega) (by omega), x2, hst, mw_s (by omega), mw_id (z := ps m s_ r k) (by omega) (by omega)]
        refine ⟨_, rfl, by omega, fr_mup h1 (by decide), fun k' q1 q2 => ?_, fun k' q1 q2 => ?_⟩
        · by_cases ek : k' = k
          · subst ek; rw [mup_s]
          · rw [mup_k ek]; exact h2 k' (by omega) q2
        · rw [mup_k (by omega)]; exact h3 k' (by omega) q2) (fun f s hI => by
        refine ⟨s, ?_, hI.2.1, fun k hk => hI.2.2.1 k (by omega) hk⟩
        try dsimp only
        rw [L_X4_oneByD_r7_45_s, if_pos (by omega)]) N m σ (by omega) (by omega) ⟨Nat.le_refl _, fr_rfl, fun k' q1 q2 => by rw [ps_lt q1]; exact hr k' q2, fun k' _ q2 => hr k' q2⟩
    exact ⟨s1, e, h1, h2⟩
  · obtain ⟨K, hK⟩ : ∃ K, N = K + 1 := ⟨N - 1, by omega⟩
    refine ⟨σ, ?_, fr_rfl, fun k hk => by rw [ps_lt (by omega)]; exact hr k hk⟩
    rw [show L_X4_oneByD_r7_45 N N (d : Int) (x : Int) (m : Int) (m : Int) σ = L_X4_oneByD_r7_45 N (K + 1) (d : Int) (x : Int) (m : Int) (m : Int) σ from by rw [← hK], L_X4_oneByD_r7_45_s, if_pos (by omega)]
theorem roL_take (l : List (Nat × Int)) (r : Nat → Int) {i : Nat} (h : i < l.length) : roL (l.take (i + 1)) r = ps (l.getD i (0, 0)).1 (l.getD i (0, 0)).2 (roL (l.take i) r) := by
  unfold roL
  rw [List.take_add_one, List.foldl_append, List.getD_eq_getElem?_getD, List.getElem?_eq_getElem h]
  rfl
theorem X4_one_eq {N d y : Nat} {t : tn} {σ : mS} (hN : 1000 ≤ N) (hd : d ≤ 200) (ht : tok t) (he : elC σ y = t) : ∃ σ', f_X4_oneByD_r7 N (d : Int) y σ = some (oD t d, σ') ∧ fr [23, 24, 25, 30] σ σ' := by
  obtain ⟨s0, a1, a2, a3⟩ := X8_read_eq (N := N) (by omega) ht he
  obtain ⟨g1, -, -⟩ := rgl_ok t (tok_mem.mp ht)
  have g2 := rgl_rg t (tok_mem.mp ht)
  generalize hs1 : mup (msv s0 30 0 201 0) 30 0 0 1 = s1
  have f1 : fr [30] s0 s1 := by
    subst hs1
    refine fr_mup ?_ (by decide)
    intro r' i k hr'
    unfold msv
    rw [if_neg (fun z => hr' (by rw [z.1]; decide))]
  have z1 : S30 s1 r0S d := fun k hk => by
    subst hs1
    unfold r0S
    by_cases e : k = 0
    · subst e; rw [mup_s, if_pos rfl]
    · rw [mup_k e, if_neg e]
      unfold msv
      rw [if_pos ⟨rfl, rfl, by omega⟩]
  obtain ⟨s2, e, h1, h2⟩ := lp_0 (L := fun f k s => L_X4_oneByD_r7_23 N f (d : Int) k s) (I := fun i s => fr [30] s1 s ∧ S30 s (roL ((rgl t).take i) r0S) d)
    (P := fun s => fr [30] s1 s ∧ S30 s (roL (rgl t) r0S) d) (rgl t).length (fun f i s hi hI => by
      obtain ⟨h1, h2⟩ := hI
      left
      have f2 := fr_trans f1 h1
      have hmem : (rgl t).getD i (0, 0) ∈ rgl t := by
        rw [List.getD_eq_getElem?_getD, List.getElem?_eq_getElem hi]
        exact List.getElem_mem hi
      obtain ⟨m1, m2, m3⟩ := g2 _ hmem
      obtain ⟨c1, c2⟩ := a2.2 i hi
      have hbd := roL_bd ((rgl t).take i) 0 r0S (fun x hx => ⟨(g2 x (List.mem_of_mem_take hx)).1, (g2 x (List.mem_of_mem_take hx)).2.2⟩) r0S_bd
      rw [List.length_take, Nat.min_eq_left (by omega), Nat.zero_add] at hbd
      obtain ⟨s3, r1, r2, r3⟩ := X4_in (N := N) (d := d) (x := i) (m := ((rgl t).getD i (0, 0)).1) (j := i) (s_ := ((rgl t).getD i (0, 0)).2) (r := roL ((rgl t).take i) r0S) (σ := s) hN hd (by omega) m1 m2 m3 (by omega) (by rw [f2 25 _ _ (by decide)]; exact c2) h2 hbd
      try dsimp only
      rw [L_X4_oneByD_r7_23_s, f2 23 _ _ (by decide), a2.1, if_neg (by omega), if_pos (by omega), tN, f2 24 _ _ (by decide), c1, r1, Option.bind_some, mw_s (by omega)]
      exact ⟨s3, rfl, fr_trans h1 r2, by rw [roL_take _ _ hi]; exact r3⟩) (fun f s hI => by
      refine ⟨s, ?_, hI.1, ?_⟩
      · try dsimp only
        rw [L_X4_oneByD_r7_23_s, (fr_trans f1 hI.1) 23 _ _ (by decide), a2.1, if_pos (by omega)]
      · have := hI.2
        rw [List.take_length] at this
        exact this) (f := N) (s := s1) (by omega) ⟨fr_rfl, by rw [List.take_zero]; exact z1⟩
  refine ⟨s2, ?_, fr_trans (fr_sub a3 (fun r hr => by simp at hr ⊢; omega)) (fr_trans (fr_sub f1 (fun r hr => by simp at hr ⊢; omega)) (fr_sub h1 (fun r hr => by simp at hr ⊢; omega)))⟩
  unfold f_X4_oneByD_r7
  try dsimp only at e
  rw [a1, Option.bind_some, fill_r30 hN, Option.bind_some, hs1, e, Option.bind_some, if_pos (by omega), tN, h2 d (Nat.le_refl _)]
  rfl
/-- the sum that SERIES takes -/
def srs (E : Nat → tn) (n : Nat) (sg : Nat → Int) (d : Nat) : Int := sm (fun g => sg g * oD (E g) d) n
theorem ter_bd {E : Nat → tn} {n g d : Nat} {sg : Nat → Int} (hG : GP E n) (hg : g < n) (hd : d ≤ 200) (hs : sg g = 1 ∨ sg g = -1) : -8120601 ≤ sg g * oD (E g) d ∧ sg g * oD (E g) d ≤ 8120601 := by
  have := oD_bd (hG.2.2.1 g hg) hd
  rcases hs with e | e <;> rw [e] <;> omega
theorem X4_at_eq {N d c n : Nat} {E : Nat → tn} {sg : Nat → Int} {σ : mS} (hN : 1000 ≤ N) (hd : d ≤ 200) (hn : σ 5 0 0 = (n : Int)) (hG : GP E n) (hE : ∀ g, g < n → elC σ g = E g) (hC : CC σ E n n) (hsg : ∀ g, g < n → σ 28 c g = sg g ∧ (sg g = 1 ∨ sg g = -1)) (hcj : ∀ f g, f < n → g < n → sg (gcj E n f g) = sg g) :
    ∃ σ', f_X4_at_r28 N (d : Int) c σ = some ((srs E n sg d).tdiv (n : Int), σ') ∧ fr [23, 24, 25, 30] σ σ' := by
  have h48 : n ≤ 48 := few48 hG.2.2.1 hG.2.2.2.1
  have hbd : ∀ c', -(48 * 8120601) ≤ sm (fun g => if cln E n g < c' then sg g * oD (E g) d else 0) n ∧ sm (fun g => if cln E n g < c' then sg g * oD (E g) d else 0) n ≤ 48 * 8120601 := fun c' => by
    have b1 := sm_le (F := fun g => if cln E n g < c' then sg g * oD (E g) d else 0) (B := 8120601) n (fun g hg => by
      have := ter_bd hG hg hd (hsg g hg).2
      try dsimp only
      split <;> omega)
    have b2 := sm_ge (F := fun g => if cln E n g < c' then sg g * oD (E g) d else 0) (B := -8120601) n (fun g hg => by
      have := ter_bd hG hg hd (hsg g hg).2
      try dsimp only
      split <;> omega)
    omega
  have hle := clo_le E n n
  obtain ⟨⟨v, s'⟩, e, h1, h2⟩ := lp2_0 (L := fun f k a s => L_X4_at_r28_6 N f (d : Int) c a k s) (I := fun k a s => a = sm (fun g => if cln E n g < k then sg g * oD (E g) d else 0) n ∧ fr [23, 24, 25, 30] σ s)
    (P := fun o => o.1 = srs E n sg d ∧ fr [23, 24, 25, 30] σ o.2) (clo E n n).2 (fun f k a s hk hI => by
      obtain ⟨h1, h2⟩ := hI
      subst h1
      left
      obtain ⟨l, l1, l2, l3, l4⟩ := hC.2.2 k hk
      have hcs := cls_sum (F := fun g => sg g * oD (E g) d) hG l1 l3 (fun f hf => by
        have hg := gcj_lt hG hf l1
        have e1 : E (gcj E n f l) = tco (tco (E f) (E l)) (tiv (E f)) := by
          unfold gcj
          rw [(gm_ok hG (gm_ok hG hf l1).1 (gv_ok hG hf).1).2, (gm_ok hG hf l1).2, (gv_ok hG hf).2]
        try dsimp only
        rw [hcj f l hf l1, e1, oD_cj (hG.2.2.1 l l1) (hG.2.2.1 f hf)])
      try dsimp only at hcs
      have hE1 : elC s l = E l := by
        rw [← hE l l1]; unfold elC
        rw [h2 7 _ _ (by decide), h2 7 _ _ (by decide), h2 7 _ _ (by decide)]
      obtain ⟨s2, r1, r2⟩ := X4_one_eq (N := N) (d := d) hN hd (hG.2.2.1 l l1) hE1
      obtain ⟨g1, g2⟩ := hsg l l1
      have b0 := hbd k
      have b1 := hbd (k + 1)
      have hct := ct_le (cjb E n l) n
      have hod := oD_bd (hG.2.2.1 l l1) hd
      have x1 : mw (sg l * ((ct (cjb E n l) n : Nat) : Int)) = sg l * ((ct (cjb E n l) n : Nat) : Int) := by rcases g2 with e | e <;> rw [e] <;> exact mw_id (by omega) (by omega)
      have x2 : sg l * ((ct (cjb E n l) n : Nat) : Int) * oD (E l) d = ((ct (cjb E n l) n : Nat) : Int) * (sg l * oD (E l) d) := by rw [Int.mul_comm (sg l), Int.mul_assoc]
      try dsimp only
      rw [L_X4_at_r28_6_s, h2 5 _ _ (by decide), hC.1, if_neg (by omega), tN, h2 20 _ _ (by decide), l2, tN, if_pos (by omega), r1, Option.bind_some, mw_s (by omega)]
      try dsimp only
      rw [h2 28 _ _ (by decide), g1, h2 21 _ _ (by decide), l4, x1, x2, mw_id (z := ((ct (cjb E n l) n : Nat) : Int) * (sg l * oD (E l) d)) (by omega) (by omega), ← hcs, mw_id (by omega) (by omega)]
      exact ⟨_, s2, rfl, rfl, fr_trans h2 r2⟩) (fun f a s hI => by
      refine ⟨(a, s), ?_, ?_, hI.2⟩
      · try dsimp only
        rw [L_X4_at_r28_6_s, hI.2 5 _ _ (by decide), hC.1, if_pos (by omega)]
      · try dsimp only
        rw [hI.1]
        unfold srs
        exact sm_cg n (fun g hg => if_pos (cln_ok hG hg).2)) (f := N) (a := 0) (s := σ) (by omega) ⟨(sm_z (fun g _ => if_neg (Nat.not_lt_zero _))).symm, fr_rfl⟩
  try dsimp only at e h1 h2
  subst h1
  have hn0 := hG.1
  have b := hbd (clo E n n).2
  rw [show sm (fun g => if cln E n g < (clo E n n).2 then sg g * oD (E g) d else 0) n = srs E n sg d from sm_cg n (fun g hg => if_pos (cln_ok hG hg).2)] at b
  refine ⟨s', ?_, h2⟩
  unfold f_X4_at_r28
  rw [e, Option.bind_some]
  try dsimp only
  rw [h2 5 _ _ (by decide), hn, if_neg (by omega), if_pos (by omega), o_div_gen (by omega) (by omega) (by omega) (by omega)]
