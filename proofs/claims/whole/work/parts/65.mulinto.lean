/-! the class's layers: products, means -/
def mli (A B : Nat → Int) (a b c x Y : Nat) : Int := sm (fun y => if ax (fst9 a + x) + ax (fst9 b + y) = c then A (ax (fst9 a + x)) * B (ax (fst9 b + y)) else 0) Y
def mll (A B : Nat → Int) (a b c X : Nat) : Int := sm (fun x => mli A B a b c x (wd b)) X
theorem dg_hit {d s : Nat} (hd : d ≤ 8) (h : dg s = d) : ∃ y, y < wd d ∧ ax (fst9 d + y) = s := by
  have h8 : dg s ≤ 8 := by omega
  have hs := dg_lt h8
  have hx := xa_lt hs h8
  have hp : pD (xa s) = d := by rw [← dg_ax hx, ax_xa hs h8]; exact h
  obtain ⟨q1, q2⟩ := pD_fst hd hx hp
  refine ⟨xa s - fst9 d, q2, ?_⟩
  rw [show fst9 d + (xa s - fst9 d) = xa s from by omega, ax_xa hs h8]
theorem mll_cv {A B : Nat → Int} {a b c : Nat} (ha : a ≤ 8) (hb : b ≤ 8) (hA : hom a A) (hB : hom b B) (hc : c < 729) : mll A B a b c (wd a) = cv A B c := by
  have e1 : cv A B c = sm (fun s => if s ≤ c then A s * B (c - s) else 0) 729 := by
    unfold cv
    rw [sm_to (m := c + 1) 729 (by omega) (fun k h1 h2 => if_neg (by omega))]
    exact sm_cg (c + 1) (fun s hs => by rw [if_pos (by omega)])
  rw [e1, ← sm_re (F := fun s => if s ≤ c then A s * B (c - s) else 0) (u := fun x => ax (fst9 a + x)) (m := wd a) (n := 729) (fun x hx => ax_lt (fst_pD ha hx).1) (fun x y hx hy h => by
    have := ax_inj (fst_pD ha hx).1 (fst_pD ha hy).1 h
    omega) (fun s hs h => by
    by_cases q : dg s = a
    · obtain ⟨y, y1, y2⟩ := dg_hit ha q
      exact absurd y2 (h y y1)
    · rw [hA s q, Int.zero_mul]
      split <;> rfl)]
  refine sm_cg (wd a) (fun x hx => ?_)
  show mli A B a b c x (wd b) = if ax (fst9 a + x) ≤ c then A (ax (fst9 a + x)) * B (c - ax (fst9 a + x)) else 0
  unfold mli
  by_cases q : ax (fst9 a + x) ≤ c
  · rw [if_pos q]
    by_cases q2 : dg (c - ax (fst9 a + x)) = b
    · obtain ⟨y, y1, y2⟩ := dg_hit hb q2
      rw [sm_one (x := y) (wd b) y1 (fun k hk hne => if_neg (fun z => hne (by
        have := ax_inj (fst_pD hb hk).1 (fst_pD hb y1).1 (by omega)
        omega))), if_pos (by omega), y2]
    · rw [hB _ q2, Int.mul_zero]
      refine sm_z (fun y hy => if_neg (fun z => q2 ?_))
      rw [← z, show ax (fst9 a + x) + ax (fst9 b + y) - ax (fst9 a + x) = ax (fst9 b + y) from by omega, dg_ax (fst_pD hb hy).1]
      exact (fst_pD hb hy).2
  · rw [if_neg q]
    exact sm_z (fun y hy => if_neg (by omega))
theorem fill_r51 {N d q : Nat} (hN : 1000 ≤ N) (hd : d ≤ 6) (hq : q < 64) (v : Int) (σ : mS) : f_J7_fill_53178_r51 N (64 * d + q) v σ = some (msv σ 51 (64 * d + q) (wd d) v) := by
  have hw := (wd_6 d (List.mem_range.mpr (by omega))).1
  unfold f_J7_fill_53178_r51
  rw [d64 hq, gwd_wd, show (0 : Int) = ((0 : Nat) : Int) from rfl, fill_lp (L := fun f k s => L_J7_fill_53178_r51_5 N f (64 * d + q) v k (wd d : Int) s) (r := 51) (i := 64 * d + q) (n := wd d) (v := v) (fun f k s hk => by
    rw [L_J7_fill_53178_r51_5_s, d64 hq, gwd_wd, if_neg (by omega), if_pos (by omega), tN, mw_s (by omega)]) (fun f s => by
    rw [L_J7_fill_53178_r51_5_s, if_pos (by omega)]) (wd d) 0 N σ (by omega) (by omega), Option.bind_some]
  refine congrArg some ?_
  funext r' i' k'
  unfold msv
  by_cases e : r' = 51 ∧ i' = 64 * d + q ∧ k' < wd d
  · rw [if_pos e, if_pos ⟨e.1, e.2.1, Nat.zero_le _, e.2.2⟩]
  · rw [if_neg e, if_neg (fun q => e ⟨q.1, q.2.1, q.2.2.2⟩)]
theorem fst_6 : ∀ d ∈ List.range 7, fst9 d ≤ 56 := by decide +kernel
set_option maxHeartbeats 1000000 in
theorem X0_mulInto_eq {N a b d qa qb q : Nat} {A B : Nat → Int} {σ : mS} (hN : 1000 ≤ N) (H : CPw σ) (hC : CLy σ) (hab : a + b = d) (hd : d ≤ 6) (ha1 : a < d) (hb1 : b < d) (hqa : qa < gmo a) (hqb : qb < gmo b) (hqa6 : qa < 64) (hqb6 : qb < 64) (hq6 : q < 64) (hA : hom a A) (hB : hom b B)
    (rA : ∀ x, x < wd a → σ 51 (64 * a + qa) x = A (ax (fst9 a + x)) % 32003) (rB : ∀ y, y < wd b → σ 51 (64 * b + qb) y = B (ax (fst9 b + y)) % 32003) :
    ∃ σ', f_X0_multiplyInto_r51 N (64 * d + q) a (qa : Int) b (qb : Int) σ = some σ' ∧ fr [51] σ σ' ∧ (∀ i k, i ≠ 64 * d + q → σ' 51 i k = σ 51 i k) ∧ ∀ y, y < wd d → σ' 51 (64 * d + q) y = cv A B (ax (fst9 d + y)) % 32003 := by
  have wa := (wd_6 a (List.mem_range.mpr (by omega))).1
  have wb := (wd_6 b (List.mem_range.mpr (by omega))).1
  have wdd := (wd_6 d (List.mem_range.mpr (by omega))).1
  have fa6 := fst_6 a (List.mem_range.mpr (by omega))
  have fb6 := fst_6 b (List.mem_range.mpr (by omega))
  have fd6 := fst_6 d (List.mem_range.mpr (by omega))
  generalize hs0 : msv σ 51 (64 * d + q) (wd d) 0 = s0
  have c0 : ∀ i k, i ≠ 64 * d + q → s0 51 i k = σ 51 i k := fun i k hi => by
    subst hs0
    unfold msv
    rw [if_neg (fun z => hi z.2.1)]
  have z0 : ∀ y, y < wd d → s0 51 (64 * d + q) y = 0 := fun y hy => by
    subst hs0
    unfold msv
    rw [if_pos ⟨rfl, rfl, hy⟩]
  have f0 : fr [51] σ s0 := by
    subst hs0
    intro r' i k hr'
    unfold msv
    rw [if_neg (fun z => hr' (by rw [z.1]; decide))]
  have inn : ∀ (x : Nat) (s : mS) (S : Nat → Int), x < wd a → fr [51] σ s → (∀ i k, i ≠ 64 * d + q → s 51 i k = σ 51 i k) → (∀ y, y < wd d → s 51 (64 * d + q) y = S y % 32003) → ∃ s', L_X0_multiplyInto_r51_63 N N (64 * d + q) a (qa : Int) b (qb : Int) (fst9 a : Int) (fst9 b : Int) (fst9 d : Int) (x : Int) (A (ax (fst9 a + x)) % 32003) 0 s = some s' ∧ fr [51] σ s' ∧ (∀ i k, i ≠ 64 * d + q → s' 51 i k = σ 51 i k) ∧ ∀ y, y < wd d → s' 51 (64 * d + q) y = (S y + mli A B a b (ax (fst9 d + y)) x (wd b)) % 32003 := by
    intro x s S hx hf hc hS
    by_cases e0 : A (ax (fst9 a + x)) % 32003 = 0
    · obtain ⟨K, hK⟩ : ∃ K, N = K + 1 := ⟨N - 1, by omega⟩
      refine ⟨s, ?_, hf, hc, fun y hy => ?_⟩
      · rw [e0, show L_X0_multiplyInto_r51_63 N N (64 * d + q) a (qa : Int) b (qb : Int) (fst9 a : Int) (fst9 b : Int) (fst9 d : Int) (x : Int) 0 0 s = L_X0_multiplyInto_r51_63 N (K + 1) (64 * d + q) a (qa : Int) b (qb : Int) (fst9 a : Int) (fst9 b : Int) (fst9 d : Int) (x : Int) 0 0 s from by rw [← hK], L_X0_multiplyInto_r51_63_s, if_pos rfl]
      · rw [hS y hy]
        have h1 : em (mli A B a b (ax (fst9 d + y)) x (wd b)) 0 := em_sm0 (fun y' _ => by
          split
          · have := em_mul (a := A (ax (fst9 a + x))) (b := 0) e0 (em_r (B (ax (fst9 b + y'))))
            rw [Int.zero_mul] at this
            exact this
          · exact em_r _)
        have h2 := em_add (em_r (S y)) h1
        rw [Int.add_zero] at h2
        exact h2.symm
    · obtain ⟨px, pdx⟩ := fst_pD (show a ≤ 8 by omega) hx
      obtain ⟨s', e, h1, h2, h3⟩ := lp_0 (L := fun g k s => L_X0_multiplyInto_r51_63 N g (64 * d + q) a (qa : Int) b (qb : Int) (fst9 a : Int) (fst9 b : Int) (fst9 d : Int) (x : Int) (A (ax (fst9 a + x)) % 32003) k s) (I := fun k s => fr [51] σ s ∧ (∀ i k, i ≠ 64 * d + q → s 51 i k = σ 51 i k) ∧ ∀ y, y < wd d → s 51 (64 * d + q) y = (S y + mli A B a b (ax (fst9 d + y)) x k) % 32003) (P := fun s => fr [51] σ s ∧ (∀ i k, i ≠ 64 * d + q → s 51 i k = σ 51 i k) ∧ ∀ y, y < wd d → s 51 (64 * d + q) y = (S y + mli A B a b (ax (fst9 d + y)) x (wd b)) % 32003) (wd b) (fun g k s hk hI => by
          obtain ⟨h1, h2, h3⟩ := hI
          left
          obtain ⟨py, pdy⟩ := fst_pD (show b ≤ 8 by omega) hk
          have H1 := CPw_ag H (ag_fr h1 (by decide))
          have hpd : pD (fst9 a + x) + pD (fst9 b + k) ≤ 8 := by omega
          have hpr := ax_pr hpd
          have hix := ixn_ok (i := pI (fst9 a + x) + pI (fst9 b + k)) (j := pJ (fst9 a + x) + pJ (fst9 b + k)) (k := pK (fst9 a + x) + pK (fst9 b + k)) (by unfold pD at hpd; omega)
          have hpD2 : pD (ixn (pI (fst9 a + x) + pI (fst9 b + k)) (pJ (fst9 a + x) + pJ (fst9 b + k)) (pK (fst9 a + x) + pK (fst9 b + k))) = d := by
            unfold pD
            rw [hix.2.1, hix.2.2.1, hix.2.2.2]
            unfold pD at pdx pdy
            omega
          obtain ⟨w1, w2⟩ := pD_fst (show d ≤ 8 by omega) hix.1 hpD2
          have hpx := X7_product_eq (N := N) H1 px py hpd
          generalize ixn (pI (fst9 a + x) + pI (fst9 b + k)) (pJ (fst9 a + x) + pJ (fst9 b + k)) (pK (fst9 a + x) + pK (fst9 b + k)) = w at hpr hix hpD2 w1 w2 hpx
          obtain ⟨v, rfl⟩ : ∃ v, w = fst9 d + v := ⟨w - fst9 d, by omega⟩
          have hvd : v < wd d := by omega
          have hrow : s 51 (64 * b + qb) k = B (ax (fst9 b + k)) % 32003 := by rw [h2 _ _ (by omega)]; exact rB k hk
          have m1 := md_lt (A (ax (fst9 a + x)))
          have m2 := md_lt (B (ax (fst9 b + k)))
          have m3 := ml_rg m1 m2
          have m4 := md_lt (S v + mli A B a b (ax (fst9 d + v)) x k)
          try dsimp only
          rw [L_X0_multiplyInto_r51_63_s, if_neg e0, h1 47 _ _ (by decide), (hC b (by omega)).2.1, if_neg (by omega), show mw ((fst9 a : Int) + (x : Int)) = ((fst9 a + x : Nat) : Int) from (by rw [mw_id (by omega) (by omega)]; omega), show mw ((fst9 b : Int) + (k : Int)) = ((fst9 b + k : Nat) : Int) from (by rw [mw_id (by omega) (by omega)]; omega), hpx, Option.bind_some]
          try dsimp only
          rw [show mw (((fst9 d + v : Nat) : Int) - (fst9 d : Int)) = ((v : Nat) : Int) from (by rw [mw_id (by omega) (by omega)]; omega), if_neg (by omega), d64 hq6, gwd_wd, if_neg (by omega), tN, tN, tN, d64 hqb6, gwd_wd, if_pos (by omega), hrow, h3 v hvd, mw_id (z := A (ax (fst9 a + x)) % 32003 * (B (ax (fst9 b + k)) % 32003)) (by omega) (by omega), rem_md (by omega) (by omega), mw_s (by omega)]
          refine ⟨_, rfl, fr_mup h1 (by decide), fun i k' hi => by rw [mup_i hi]; exact h2 i k' hi, fun y hy => ?_⟩
          show _ = (S y + (mli A B a b (ax (fst9 d + y)) x k + (if ax (fst9 a + x) + ax (fst9 b + k) = ax (fst9 d + y) then A (ax (fst9 a + x)) * B (ax (fst9 b + k)) else 0))) % 32003
          by_cases ey : y = v
          · subst ey
            rw [mup_s, if_pos hpr.symm]
            have h5 := em_add (em_md (S y + mli A B a b (ax (fst9 d + y)) x k)) (em_mul (em_md (A (ax (fst9 a + x)))) (em_md (B (ax (fst9 b + k)))))
            rw [Int.add_assoc] at h5
            exact h5
          · rw [mup_k ey, if_neg (fun z => ey (by
              have := ax_inj (fst_pD (show d ≤ 8 by omega) hy).1 (fst_pD (show d ≤ 8 by omega) hvd).1 (by rw [← z, hpr])
              omega)), Int.add_zero, h3 y hy]) (fun g s hI => by
          refine ⟨s, ?_, hI⟩
          try dsimp only
          rw [L_X0_multiplyInto_r51_63_s, if_neg e0, hI.1 47 _ _ (by decide), (hC b (by omega)).2.1, if_pos (by omega)]) (f := N) (s := s) (by omega) ⟨hf, hc, fun y hy => by rw [hS y hy]; show S y % 32003 = (S y + 0) % 32003; rw [Int.add_zero]⟩
      exact ⟨s', e, h1, h2, h3⟩
  obtain ⟨s1, e, h1, h2, h3⟩ := lp_0 (L := fun g k s => L_X0_multiplyInto_r51_40 N g (64 * d + q) a (qa : Int) b (qb : Int) (fst9 a : Int) (fst9 b : Int) (fst9 d : Int) k s) (I := fun x s => fr [51] σ s ∧ (∀ i k, i ≠ 64 * d + q → s 51 i k = σ 51 i k) ∧ ∀ y, y < wd d → s 51 (64 * d + q) y = mll A B a b (ax (fst9 d + y)) x % 32003) (P := fun s => fr [51] σ s ∧ (∀ i k, i ≠ 64 * d + q → s 51 i k = σ 51 i k) ∧ ∀ y, y < wd d → s 51 (64 * d + q) y = mll A B a b (ax (fst9 d + y)) (wd a) % 32003) (wd a) (fun g x s hx hI => by
      obtain ⟨h1, h2, h3⟩ := hI
      left
      obtain ⟨s2, r1, r2, r3, r4⟩ := inn x s (fun y => mll A B a b (ax (fst9 d + y)) x) hx h1 h2 h3
      try dsimp only
      rw [L_X0_multiplyInto_r51_40_s, h1 47 _ _ (by decide), (hC a (by omega)).2.1, if_neg (by omega), tN, d64 hqa6, gwd_wd, if_pos (by omega), tN, h2 _ _ (by omega), rA x hx, r1, Option.bind_some, mw_s (by omega)]
      exact ⟨s2, rfl, r2, r3, r4⟩) (fun g s hI => by
      refine ⟨s, ?_, hI⟩
      try dsimp only
      rw [L_X0_multiplyInto_r51_40_s, hI.1 47 _ _ (by decide), (hC a (by omega)).2.1, if_pos (by omega)]) (f := N) (s := s0) (by omega) ⟨f0, c0, fun y hy => z0 y hy⟩
  refine ⟨s1, ?_, h1, h2, fun y hy => ?_⟩
  · unfold f_X0_multiplyInto_r51
    try dsimp only at e
    rw [fill_r51 hN hd hq6, hs0, Option.bind_some, f0 47 _ _ (by decide), (hC a (by omega)).1, X7_firstOf_eq (by omega), Option.bind_some]
    try dsimp only
    rw [f0 47 _ _ (by decide), (hC b (by omega)).1, X7_firstOf_eq (by omega), Option.bind_some]
    try dsimp only
    rw [f0 47 _ _ (by decide), f0 47 _ _ (by decide), (hC a (by omega)).1, (hC b (by omega)).1, show mw ((a : Int) + (b : Int)) = ((d : Nat) : Int) from (by rw [mw_id (by omega) (by omega)]; omega), X7_firstOf_eq (by omega), Option.bind_some]
    try dsimp only
    rw [show a * (a + 1) * (a + 2) / 6 = fst9 a from rfl, show b * (b + 1) * (b + 2) / 6 = fst9 b from rfl, show d * (d + 1) * (d + 2) / 6 = fst9 d from rfl, e]
    rfl
  · rw [h3 y hy, mll_cv (by omega) (by omega) hA hB (ax_lt (fst_pD (show d ≤ 8 by omega) hy).1)]
/-- the class's mean of one POWERS -/
theorem X0_average_eq {N n d j : Nat} {E : Nat → tn} {σ : mS} (hN : 1000 ≤ N) (H : CPw σ) (hC : CLy σ) (hd : d ≤ 6) (hj : j < wd d) (hn : σ 5 0 0 = (n : Int)) (hG : GP E n) (hE : ∀ g, g < n → elC σ g = E g) : ∃ σ', f_X0_averagePowers N d (j : Int) (iv n : Int) σ = some σ' ∧ fr [41, 46] σ σ' ∧ ∀ y, y < wd d → σ' 46 0 y = mnv E n d j y := by
  have h48 : n ≤ 48 := few48 hG.2.2.1 hG.2.2.2.1
  have hw := (wd_6 d (List.mem_range.mpr (by omega))).1
  have fd6 := fst_6 d (List.mem_range.mpr (by omega))
  have hiv := iv_lt n
  obtain ⟨px, pdx⟩ := fst_pD (show d ≤ 8 by omega) hj
  generalize hs0 : msv σ 46 0 28 0 = s0
  have f0 : fr [41, 46] σ s0 := by
    subst hs0
    intro r' i k hr'
    unfold msv
    rw [if_neg (fun z => hr' (by rw [z.1]; decide))]
  have z0 : ∀ y, y < wd d → s0 46 0 y = 0 := fun y hy => by
    subst hs0
    unfold msv
    rw [if_pos ⟨rfl, rfl, by omega⟩]
  obtain ⟨s1, e, h1, h2⟩ := lp_0 (L := fun g k s => L_X0_averagePowers_20 N g d (j : Int) (iv n : Int) (fst9 d : Int) k s) (I := fun g s => fr [41, 46] σ s ∧ ∀ y, y < wd d → s 46 0 y = sm (fun g => if tX (E g) (fst9 d + j) = fst9 d + y then tS (E g) (fst9 d + j) * (iv n : Int) else 0) g % 32003) (P := fun s => fr [41, 46] σ s ∧ ∀ y, y < wd d → s 46 0 y = sm (fun g => if tX (E g) (fst9 d + j) = fst9 d + y then tS (E g) (fst9 d + j) * (iv n : Int) else 0) n % 32003) n (fun fu g s hg hI => by
      obtain ⟨h1, h2⟩ := hI
      left
      have ht := hG.2.2.1 g hg
      have hX := tX_lt ht px
      have hSp := tS_pm (E g) (fst9 d + j)
      obtain ⟨q1, q2⟩ := pD_fst (show d ≤ 8 by omega) hX (by rw [tX_d ht px]; exact pdx)
      have H1 := CPw_ag H (ag_fr h1 (by decide))
      have he1 : elC s g = E g := by
        rw [← hE g hg]; unfold elC
        rw [h1 7 _ _ (by decide), h1 7 _ _ (by decide), h1 7 _ _ (by decide)]
      obtain ⟨s2, r1, r2⟩ := X7_turned_eq (N := N) (by omega) H1 px ht he1
      obtain ⟨v, hv⟩ : ∃ v, tX (E g) (fst9 d + j) = fst9 d + v := ⟨tX (E g) (fst9 d + j) - fst9 d, by omega⟩
      have hvd : v < wd d := by omega
      have f2 : fr [41, 46] σ s2 := fr_trans h1 (fr_sub r2 (fun r hr => by simp at hr ⊢; omega))
      have hcell : s2 46 0 v = sm (fun g => if tX (E g) (fst9 d + j) = fst9 d + v then tS (E g) (fst9 d + j) * (iv n : Int) else 0) g % 32003 := by rw [r2 46 _ _ (by decide)]; exact h2 v hvd
      have m1 := md_lt (sm (fun g => if tX (E g) (fst9 d + j) = fst9 d + v then tS (E g) (fst9 d + j) * (iv n : Int) else 0) g)
      have m2 := md_lt (tS (E g) (fst9 d + j) * (iv n : Int))
      have hsn := X11_signed_eq (N := N) (σ := s2) hSp (w := ((tX (E g) (fst9 d + j) + 1 : Nat) : Int)) (by omega) (show 0 ≤ (iv n : Int) ∧ (iv n : Int) < 32003 by omega)
      try dsimp only
      rw [L_X0_averagePowers_20_s, h1 5 _ _ (by decide), hn, if_neg (by omega), if_pos (by omega), tN, show mw ((fst9 d : Int) + (j : Int)) = ((fst9 d + j : Nat) : Int) from (by rw [mw_id (by omega) (by omega)]; omega), r1, Option.bind_some]
      try dsimp only
      rw [X11_ixs hSp hX, Option.bind_some]
      try dsimp only
      rw [show mw (((tX (E g) (fst9 d + j) : Nat) : Int) - (fst9 d : Int)) = ((v : Nat) : Int) from (by rw [mw_id (by omega) (by omega)]; omega), if_neg (by omega), if_neg (by rw [f2 47 _ _ (by decide), (hC d hd).2.1]; omega), if_pos (by omega), hsn, Option.bind_some]
      try dsimp only
      rw [if_pos (by omega), tN, hcell, rem_md (by omega) (by omega), md_add, mw_s (by omega)]
      refine ⟨_, rfl, fr_mup f2 (by decide), fun y hy => ?_⟩
      rw [sm_s]
      by_cases ey : y = v
      · subst ey
        rw [mup_s, if_pos hv]
      · rw [mup_k ey, r2 46 _ _ (by decide), h2 y hy, if_neg (by omega), Int.add_zero]) (fun fu s hI => by
      refine ⟨s, ?_, hI⟩
      try dsimp only
      rw [L_X0_averagePowers_20_s, hI.1 5 _ _ (by decide), hn, if_pos (by omega)]) (f := N) (s := s0) (by omega) ⟨f0, fun y hy => z0 y hy⟩
  refine ⟨s1, ?_, h1, fun y hy => ?_⟩
  · unfold f_X0_averagePowers
    try dsimp only at e
    rw [fill_r46 hN, hs0, Option.bind_some, f0 47 _ _ (by decide), (hC d hd).1, X7_firstOf_eq (by omega), Option.bind_some]
    try dsimp only
    rw [show d * (d + 1) * (d + 2) / 6 = fst9 d from rfl, e]
    rfl
  · rw [h2 y hy]
    unfold mnv meanM
    rw [← sm_mulr, sm_cg (F := fun g => if tX (E g) (fst9 d + j) = fst9 d + y then tS (E g) (fst9 d + j) * (iv n : Int) else 0) (G := fun g => (if tX (E g) (fst9 d + j) = fst9 d + y then tS (E g) (fst9 d + j) else 0) * (iv n : Int)) n (fun g _ => by split <;> simp)]
