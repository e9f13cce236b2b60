/-! the reference's adds, mean, stays -/
def rvp (t : tn) (n : Int) (Q : Nat → Int) (c A : Nat) : Int := sm (fun a => if dg a ≤ 8 ∧ ax (tX t (xa a)) = c then tS t (xa a) * n * Q (xa a) else 0) A
theorem rvp_s (t : tn) (n : Int) (Q : Nat → Int) (c A : Nat) : rvp t n Q c (A + 1) = rvp t n Q c A + (if dg A ≤ 8 ∧ ax (tX t (xa A)) = c then tS t (xa A) * n * Q (xa A) else 0) := rfl
theorem rvp_tvp {t : tn} (ht : tok t) (n : Int) (Q : Nat → Int) {k : Nat} (hk : k < 165) : rvp t n Q (ax k) 729 = tvp t n Q 165 k := by
  unfold rvp tvp
  rw [← sm_re (F := fun a => if dg a ≤ 8 ∧ ax (tX t (xa a)) = ax k then tS t (xa a) * n * Q (xa a) else 0) (u := ax) (m := 165) (n := 729) (fun x hx => ax_lt hx) (fun x y hx hy h => ax_inj hx hy h) (fun a ha h => by
    refine if_neg (fun z => ?_)
    exact h _ (xa_lt ha z.1) (ax_xa ha z.1))]
  refine sm_cg 165 (fun x hx => ?_)
  show (if dg (ax x) ≤ 8 ∧ ax (tX t (xa (ax x))) = ax k then tS t (xa (ax x)) * n * Q (xa (ax x)) else 0) = _
  rw [xa_ax hx, dg_ax hx]
  have := pD_le hx
  by_cases e : tX t x = k
  · rw [if_pos ⟨this, by rw [e]⟩, if_pos e]
  · rw [if_neg (fun z => e (ax_inj (tX_lt ht hx) hk z.2)), if_neg e]
theorem rvp_out {t : tn} (ht : tok t) (n : Int) (Q : Nat → Int) {c : Nat} (hc : 8 < dg c) : rvp t n Q c 729 = 0 := sm_z (fun a ha => by
  refine if_neg (fun z => ?_)
  have h1 := xa_lt ha z.1
  have h2 := dg_ax (tX_lt ht h1)
  rw [z.2] at h2
  have := pD_le (tX_lt ht h1)
  omega)
theorem at_eq {N i j k : Nat} {σ : mS} (h : i + j + k ≤ 8) : f_X12_at N (i : Int) (j : Int) (k : Int) σ = some (((81 * i + 9 * j + k : Nat) : Int), σ) := by
  unfold f_X12_at
  rw [show mw (mw (mw (81 * (i : Int)) + mw (9 * (j : Int))) + (k : Int)) = ((81 * i + 9 * j + k : Nat) : Int) from (by
    rw [mw_id (z := 81 * (i : Int)) (by omega) (by omega), mw_id (z := 9 * (j : Int)) (by omega) (by omega), mw_id (z := 81 * (i : Int) + 9 * (j : Int)) (by omega) (by omega), mw_id (by omega) (by omega)]; omega)]
theorem RG_fq {σ σ' : mS} {E : Nat → tn} {n : Nat} {R K : List Nat} (h : RG σ E n) (hf : fq R K σ σ') (hR : 74 ∉ R) (hK : 6 ∉ K) : RG σ' E n := by
  refine ⟨by rw [hf.2 6 hK]; exact h.1, fun k hk => ?_, h.2.2⟩
  unfold elR
  rw [hf.1 74 _ _ hR (by decide), hf.1 74 _ _ hR (by decide), hf.1 74 _ _ hR (by decide)]
  exact h.2.1 k hk
/-- what the row put aside bears behind an adding -/
def aA (σ s : mS) (F : Nat → Int) : Prop := fq [81] [14, 15, 16, 17] σ s ∧ (∀ c, c < 5832 ∨ 6561 ≤ c → s 81 0 c = σ 81 0 c) ∧ ∀ c, c < 729 → s 81 0 (5832 + c) = F c % 32003
theorem X12_adds_eq {N q g n : Nat} {z : Int} {E : Nat → tn} {S : Nat → Int} {P : Nat → Nat → Int} {σ : mS} (hN : 1000 ≤ N) (H : RG σ E n) (hg : g < n) (hq : q < 8) (hP : RP σ P) (hnq : nm (P q)) (hz : z = 1 ∨ z = -1) (hS : ∀ c, c < 729 → σ 81 0 (5832 + c) = S c % 32003) :
    ∃ σ', f_X12_adds N 8 (q : Int) (g : Int) z σ = some σ' ∧ aA σ σ' (fun c => S c + rvp (E g) z (P q) c 729) := by
  have ht := H.2.2.2.2.1 g hg
  obtain ⟨s1, e, h⟩ := tri (S := mS) (N := N) (by omega) (fun f i s => L_X12_adds_3 N f 8 (q : Int) (g : Int) z i s) (fun f i j s => L_X12_adds_13 N f 8 (q : Int) (g : Int) z i j s) (fun f i j k s => L_X12_adds_26 N f 8 (q : Int) (g : Int) z i j k s) (fun a s => aA σ s (fun c => S c + rvp (E g) z (P q) c a))
    (fun f i j k s h hI => by
      obtain ⟨h1, h2, h3⟩ := hI
      obtain ⟨x1, x2⟩ := xa_ijk h
      obtain ⟨w1, wI, wJ, wK⟩ := ixn_ok h
      have Ps : RP s P := fun p' hp' a ha => by rw [h2 _ (by omega)]; exact hP p' hp' a ha
      have Hs := RG_fq H h1 (by decide) (by decide)
      have hrg := hnq _ w1
      rw [L_X12_adds_26_s, show mw (mw ((i : Int) + (j : Int)) + (k : Int)) = ((i + j + k : Nat) : Int) from (by rw [mw_id (z := (i : Int) + (j : Int)) (by omega) (by omega), mw_id (by omega) (by omega)]; omega), if_neg (by omega), X12_of_eq hq h Ps, Option.bind_some, mw_s (by omega)]
      try dsimp only
      by_cases q0 : P q (ixn i j k) = 0
      · rw [if_pos q0]
        refine ⟨s, rfl, h1, h2, fun c hc => ?_⟩
        rw [h3 c hc]
        show (S c + rvp (E g) z (P q) c (81 * i + 9 * j + k)) % 32003 = (S c + rvp (E g) z (P q) c (81 * i + 9 * j + k + 1)) % 32003
        rw [rvp_s, x1, x2, q0]
        simp
      · obtain ⟨s2, t1, t2, t3⟩ := X12_turns_eq (N := N) (g := g) (x := ixn i j k) (by omega) Hs hg w1
        rw [wI, wJ, wK] at t1
        have hX := tX_lt ht w1
        have hax : 81 * tq (E g) (ixn i j k) 0 + 9 * tq (E g) (ixn i j k) 1 + tq (E g) (ixn i j k) 2 = ax (tX (E g) (ixn i j k)) := (ax_ixn (tq_sum ht w1)).symm
        have hxl := ax_lt hX
        have hSp := tS_pm (E g) (ixn i j k)
        rw [if_neg q0, t1, Option.bind_some, t2.1, t2.2.1, t2.2.2.1, at_eq (tq_sum ht w1), Option.bind_some, hax]
        try dsimp only
        rw [show mw (mw ((729 : Int) * 8) + ((ax (tX (E g) (ixn i j k)) : Nat) : Int)) = ((5832 + ax (tX (E g) (ixn i j k)) : Nat) : Int) from (mw729 (p := 8) (by decide) hxl), if_pos (by omega), tN, t2.2.2.2]
        have hcell : s2 81 0 (5832 + ax (tX (E g) (ixn i j k))) = (S (ax (tX (E g) (ixn i j k))) + rvp (E g) z (P q) (ax (tX (E g) (ixn i j k))) (81 * i + 9 * j + k)) % 32003 := by rw [t3.1 81 _ _ (by simp) (by decide)]; exact h3 _ hxl
        have hm := md_lt (S (ax (tX (E g) (ixn i j k))) + rvp (E g) z (P q) (ax (tX (E g) (ixn i j k))) (81 * i + 9 * j + k))
        have hv : -32003 < tS (E g) (ixn i j k) * z * P q (ixn i j k) ∧ tS (E g) (ixn i j k) * z * P q (ixn i j k) < 32003 := by
          rcases hSp with a | a <;> rcases hz with b | b <;> rw [a, b] <;> omega
        have hv2 : mx (tS (E g) (ixn i j k) * z) = tS (E g) (ixn i j k) * z := by rcases hSp with a | a <;> rcases hz with b | b <;> rw [a, b] <;> decide
        rw [hcell, hv2, mx_small (z := tS (E g) (ixn i j k) * z * P q (ixn i j k)) (by omega) (by omega), mx_small (by omega) (by omega), X12_left_eq (mx_small (by omega) (by omega)), Option.bind_some]
        try dsimp only
        rw [if_pos (by omega)]
        refine ⟨_, rfl, fq_mup (fq_trans h1 (fq_sub t3 (fun r hr => absurd hr (by simp)) (fun k hk => hk))) (by decide) (by decide), fun c hc => ?_, fun c hc => ?_⟩
        · rw [mup_k (by omega), t3.1 81 _ _ (by simp) (by decide)]; exact h2 c hc
        · show _ = (S c + rvp (E g) z (P q) c (81 * i + 9 * j + k + 1)) % 32003
          rw [rvp_s, x1, x2]
          by_cases ec : c = ax (tX (E g) (ixn i j k))
          · subst ec
            rw [mup_s, if_pos ⟨h, rfl⟩, Int.emod_add_emod, Int.add_assoc]
          · rw [mup_k (by omega), if_neg (fun y => ec y.2.symm), Int.add_zero, t3.1 81 _ _ (by simp) (by decide), h3 c hc])
    (fun f i j k s h => by
      try dsimp only
      rw [L_X12_adds_26_s, show mw (mw ((i : Int) + (j : Int)) + (k : Int)) = ((i + j + k : Nat) : Int) from (by rw [mw_id (z := (i : Int) + (j : Int)) (by omega) (by omega), mw_id (by omega) (by omega)]; omega), if_pos (by omega)])
    (fun f i j s h => by
      try dsimp only
      rw [L_X12_adds_13_s, show mw ((i : Int) + (j : Int)) = ((i + j : Nat) : Int) from (by rw [mw_id (by omega) (by omega)]; omega), if_neg (by omega), mw_s (by omega)])
    (fun f i j s h => by
      try dsimp only
      rw [L_X12_adds_13_s, show mw ((i : Int) + (j : Int)) = ((i + j : Nat) : Int) from (by rw [mw_id (by omega) (by omega)]; omega), if_pos (by omega)])
    (fun f i s h => by
      try dsimp only
      rw [L_X12_adds_3_s, if_neg (by omega), mw_s (by omega)])
    (fun f s => by
      try dsimp only
      rw [L_X12_adds_3_s, if_pos (by omega)])
    (fun a s h1 h2 hI => by
      refine ⟨hI.1, hI.2.1, fun c hc => ?_⟩
      rw [hI.2.2 c hc]
      show (S c + rvp (E g) z (P q) c a) % 32003 = (S c + rvp (E g) z (P q) c (a + 1)) % 32003
      rw [rvp_s, if_neg (fun y => by omega), Int.add_zero]) σ ⟨fq_rfl, fun _ _ => rfl, fun c hc => by rw [hS c hc]; show S c % 32003 = (S c + 0) % 32003; rw [Int.add_zero]⟩
  refine ⟨s1, ?_, h⟩
  unfold f_X12_adds
  try dsimp only at e
  rw [e]
  rfl
theorem aA_RT {t : tn} {z : Int} {Q : Nat → Int} {s : mS} (ht : tok t) (h : ∀ c, c < 729 → s 81 0 (5832 + c) = rvp t z Q c 729 % 32003) : RT s (fun k => tvp t z Q 165 k % 32003) := fun c hc => by
  rw [h c hc]
  unfold PR
  by_cases hd : dg c ≤ 8
  · rw [if_pos hd]
    have := rvp_tvp ht z Q (xa_lt hc hd)
    rw [ax_xa hc hd] at this
    rw [this]
  · rw [if_neg hd, rvp_out ht z Q (by omega)]; rfl
/-- clear, then add: the row put aside bears what is turned -/
theorem X12_turn1_eq {N q g n : Nat} {z : Int} {E : Nat → tn} {P : Nat → Nat → Int} {σ : mS} (hN : 1000 ≤ N) (H : RG σ E n) (hg : g < n) (hq : q < 8) (hP : RP σ P) (hnq : nm (P q)) (hz : z = 1 ∨ z = -1) :
    ∃ s0 σ', f_X12_clear N 8 σ = some s0 ∧ fr [81] σ s0 ∧ f_X12_adds N 8 (q : Int) (g : Int) z s0 = some σ' ∧ fq [81] [14, 15, 16, 17] σ σ' ∧ RP σ' P ∧ RT σ' (fun k => tvp (E g) z (P q) 165 k % 32003) := by
  obtain ⟨s0, c1, c2, c3, c4⟩ := X12_clear_eq (N := N) (p := 8) (σ := σ) hN (by decide)
  have P0 : RP s0 P := fun p' hp' a ha => by rw [c3 _ (by omega)]; exact hP p' hp' a ha
  have H0 := RG_fq H (fq_of c2 (by decide)) (by decide) (by decide)
  obtain ⟨s1, e, h1, h2, h3⟩ := X12_adds_eq (N := N) (z := z) (S := fun _ => 0) hN H0 hg hq P0 hnq hz (fun c hc => by
    have := c4 c hc
    rw [show 729 * 8 + c = 5832 + c from by omega] at this
    rw [this]; rfl)
  refine ⟨s0, s1, c1, c2, e, fq_trans (fq_sub (fq_of c2 (by decide)) (fun r hr => hr) (fun k hk => absurd hk (by simp))) h1, fun p' hp' a ha => by rw [h2 _ (by omega)]; exact P0 p' hp' a ha, aA_RT (H.2.2.2.2.1 g hg) (fun c hc => by rw [h3 c hc]; show (0 + rvp (E g) z (P q) c 729) % 32003 = _; rw [Int.zero_add])⟩
theorem RT_copy {N p : Nat} {P : Nat → Nat → Int} {A : Nat → Int} {σ : mS} (hN : 1000 ≤ N) (hp : p < 8) (hP : RP σ P) (hT : RT σ A) : ∃ σ', f_X12_copy N 8 (p : Int) σ = some σ' ∧ fr [81] σ σ' ∧ RP σ' (pst P p A) := by
  obtain ⟨s1, c1, c2⟩ := X12_copy_eq (N := N) (p := 8) (q := p) (σ := σ) hN (by decide) (by omega) (by omega)
  refine ⟨s1, c1, c2.1, RP_rwP hP c2 (fun _ a ha => ?_)⟩
  have := hT a ha
  rw [show 5832 + a = 729 * 8 + a from by omega] at this
  exact this
theorem X12_mean0_eq {N q c n : Nat} {E : Nat → tn} {sg : Nat → Int} {P : Nat → Nat → Int} {σ : mS} (hN : 1000 ≤ N) (H : RG σ E n) (hq : q < 8) (hc : c < 16) (hP : RP σ P) (hnq : nm (P q)) (hsg : ∀ g, g < n → σ 79 0 (48 * c + g) = sg g ∧ (sg g = 1 ∨ sg g = -1)) :
    ∃ σ', f_X12_mean0 N 8 (q : Int) (c : Int) σ = some σ' ∧ fq [81] [14, 15, 16, 17] σ σ' ∧ RP σ' P ∧ RT σ' (meanP E n sg (P q)) := by
  have h48 := RG_48 H
  obtain ⟨s0, c1, c2, c3, c4⟩ := X12_clear_eq (N := N) (p := 8) (σ := σ) hN (by decide)
  have f0 : fq [81] [14, 15, 16, 17] σ s0 := fq_sub (fq_of c2 (by decide)) (fun r hr => hr) (fun k hk => absurd hk (by simp))
  obtain ⟨s1, e, h1, h2, h3⟩ := lp_0 (L := fun f g s => L_X12_mean0_8 N f 8 (q : Int) (c : Int) g s) (I := fun g s => fq [81] [14, 15, 16, 17] σ s ∧ (∀ c, c < 5832 ∨ 6561 ≤ c → s 81 0 c = σ 81 0 c) ∧ ∀ a, a < 729 → s 81 0 (5832 + a) = sm (fun g => rvp (E g) (sg g) (P q) a 729) g % 32003)
    (P := fun s => fq [81] [14, 15, 16, 17] σ s ∧ (∀ c, c < 5832 ∨ 6561 ≤ c → s 81 0 c = σ 81 0 c) ∧ ∀ a, a < 729 → s 81 0 (5832 + a) = sm (fun g => rvp (E g) (sg g) (P q) a 729) n % 32003) n (fun f g s hg hI => by
      obtain ⟨h1, h2, h3⟩ := hI
      left
      have Hs := RG_fq H h1 (by decide) (by decide)
      obtain ⟨g1, g2⟩ := hsg g hg
      obtain ⟨s2, r1, r2, r3, r4⟩ := X12_adds_eq (N := N) (z := sg g) (S := fun a => sm (fun g => rvp (E g) (sg g) (P q) a 729) g) (P := P) hN Hs hg hq (fun p' hp' a ha => by rw [h2 _ (by omega)]; exact hP p' hp' a ha) hnq g2 h3
      try dsimp only
      rw [L_X12_mean0_8_s, Hs.1, if_neg (by omega), mw48 hc (by omega), if_pos (by omega), tN, h1.1 79 _ _ (by decide) (by decide), g1, r1, Option.bind_some, mw_s (by omega)]
      exact ⟨s2, rfl, fq_trans h1 r2, fun c hc => (r3 c hc).trans (h2 c hc), r4⟩) (fun f s hI => by
      have Hs := RG_fq H hI.1 (by decide) (by decide)
      refine ⟨s, ?_, hI⟩
      try dsimp only
      rw [L_X12_mean0_8_s, Hs.1, if_pos (by omega)]) (f := N) (s := s0) (by omega) ⟨f0, fun c hc => c3 c (by omega), fun a ha => by
        have := c4 a ha
        rw [show 729 * 8 + a = 5832 + a from by omega] at this
        rw [this]; rfl⟩
  have hiv := iv_lt n
  have hn1 : s1 71 0 6 = (n : Int) := by rw [h1.2 6 (by decide)]; exact H.1
  obtain ⟨s2, e2, k1, k2, k3⟩ := row_lp (L := fun f a s => L_X12_mean0_55 N f 8 (iv n : Int) a s) (p := 8) (F := fun a => sm (fun g => rvp (E g) (sg g) (P q) a 729) n * (iv n : Int) % 32003) (σ := s1) hN (fun f a s ha hI => by
    have hm := md_lt (sm (fun g => rvp (E g) (sg g) (P q) a 729) n)
    have a1 := ml_rg hm (show 0 ≤ (iv n : Int) ∧ (iv n : Int) < 32003 by omega)
    have hcell : s 81 0 (729 * 8 + a) = sm (fun g => rvp (E g) (sg g) (P q) a 729) n % 32003 := by
      rw [hI.2.2.2 a (Nat.le_refl _) ha, show 729 * 8 + a = 5832 + a from by omega]; exact h3 a ha
    try dsimp only
    rw [L_X12_mean0_55_s, if_neg (by omega), show mw (mw ((729 : Int) * 8) + (a : Int)) = ((729 * 8 + a : Nat) : Int) from mw729 (p := 8) (by decide) ha, if_pos (by omega), tN, hcell, mx_small (by omega) (by omega), X12_left_eq (mx_small (by omega) (by omega)), Option.bind_some]
    try dsimp only
    rw [if_pos (by omega), md_mul, mw_s (by omega)]) (fun f s => by
    try dsimp only
    rw [L_X12_mean0_55_s, if_pos (by omega)])
  refine ⟨s2, ?_, fq_trans h1 (fq_sub (fq_of k1 (by decide)) (fun r hr => hr) (fun k hk => absurd hk (by simp))), fun p' hp' a ha => by rw [k2 _ (by omega), h2 _ (by omega)]; exact hP p' hp' a ha, fun a ha => ?_⟩
  · unfold f_X12_mean0
    try dsimp only at e e2
    rw [show f_X12_clear N 8 σ = some s0 from c1, Option.bind_some, e, Option.bind_some, hn1, X12_by_eq (by omega) (by omega), Option.bind_some]
    try dsimp only
    rw [e2]
    rfl
  · have := k3 a ha
    rw [show 729 * 8 + a = 5832 + a from by omega] at this
    rw [this]
    show sm (fun g => rvp (E g) (sg g) (P q) a 729) n * (iv n : Int) % 32003 = _
    unfold PR
    by_cases hd : dg a ≤ 8
    · rw [if_pos hd]
      unfold meanP mnp
      rw [sm_cg (F := fun g => rvp (E g) (sg g) (P q) a 729) (G := fun g => tvp (E g) (sg g) (P q) 165 (xa a)) n (fun g hg => by
        have := rvp_tvp (H.2.2.2.2.1 g hg) (sg g) (P q) (xa_lt ha hd)
        rw [ax_xa ha hd] at this
        exact this)]
    · rw [if_neg hd, sm_z (F := fun g => rvp (E g) (sg g) (P q) a 729) (fun g hg => rvp_out (H.2.2.2.2.1 g hg) (sg g) (P q) (by omega))]
      simp
