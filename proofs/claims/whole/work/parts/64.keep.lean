/-! the class's layers: what is free is kept -/
def kp (d : Nat) (σ σ' : mS) : Prop := fr [47, 53, 55, 57, 58, 59, 60] σ σ' ∧ (∀ i k, ¬ (i = d ∧ k = 7) → σ' 47 i k = σ 47 i k) ∧ (∀ i k, i ≠ d → σ' 53 i k = σ 53 i k ∧ σ' 58 i k = σ 58 i k) ∧ ∀ i k, i / 64 ≠ d → σ' 55 i k = σ 55 i k ∧ σ' 57 i k = σ 57 i k
theorem kp_trans {d : Nat} {a b c : mS} (h1 : kp d a b) (h2 : kp d b c) : kp d a c := ⟨fr_trans h1.1 h2.1, fun i k h => (h2.2.1 i k h).trans (h1.2.1 i k h), fun i k h => ⟨((h2.2.2.1 i k h).1).trans (h1.2.2.1 i k h).1, ((h2.2.2.1 i k h).2).trans (h1.2.2.1 i k h).2⟩, fun i k h => ⟨((h2.2.2.2 i k h).1).trans (h1.2.2.2 i k h).1, ((h2.2.2.2 i k h).2).trans (h1.2.2.2 i k h).2⟩⟩
theorem kp_wk {d : Nat} {σ σ' : mS} (h : fr [59, 60] σ σ') : kp d σ σ' := ⟨fr_sub h (fun r hr => by simp at hr ⊢; omega), fun i k _ => h 47 _ _ (by decide), fun i k _ => ⟨h 53 _ _ (by decide), h 58 _ _ (by decide)⟩, fun i k _ => ⟨h 55 _ _ (by decide), h 57 _ _ (by decide)⟩⟩
theorem CLy_kp {d : Nat} {σ σ' : mS} (h : CLy σ) (hk : kp d σ σ') : CLy σ' := fun e he => by
  rw [hk.2.1 e 0 (by omega), hk.2.1 e 1 (by omega), hk.2.1 e 2 (by omega)]
  exact h e he
theorem LE_fr {d m : Nat} {V : Nat → Nat → Int} {σ σ' : mS} (h : LE σ d m V) (h7 : σ' 47 d 7 = σ 47 d 7) (h55 : ∀ f k, f < m → σ' 55 (64 * d + f) k = σ 55 (64 * d + f) k ∧ σ' 57 (64 * d + f) k = σ 57 (64 * d + f) k) (h58 : ∀ f, f < m → σ' 58 d f = σ 58 d f) : LE σ' d m V := by
  obtain ⟨a, b, c1, c2, c3, c4, c5⟩ := h
  refine ⟨by rw [h7]; exact a, fun f hf => ?_, fun f hf k hk => ?_, fun f hf => ?_, fun f g hfg hg => ?_, fun g hg => ?_, c5⟩
  · obtain ⟨b1, b2, b3, b4⟩ := b f hf
    refine ⟨fun k hk => by rw [(h55 f k hf).1]; exact b1 k hk, fun k hk => by rw [(h55 f k hf).2]; exact b2 k hk, by rw [h58 f hf]; exact b3, fun g h1 h2 => by rw [(h55 f g hf).2]; exact b4 g h1 h2⟩
  · try dsimp only
    rw [(h55 f k hf).1]
    refine em_t (c1 f hf k hk) (em_sm m (fun g hg => ?_))
    rw [(h55 f g hf).2]
    exact em_r _
  · try dsimp only
    rw [h58 f hf, (h55 f _ hf).1]
    exact c2 f hf
  · try dsimp only
    rw [h58 f (by omega), (h55 g _ hg).1]
    exact c3 f g hfg hg
  · exact inS_cg (fun f hf k hk => by
      try dsimp only
      rw [(h55 f k hf).1]
      exact em_r _) (fun k hk => em_r _) (c4 g hg)
theorem LE_V {d m : Nat} {V V' : Nat → Nat → Int} {σ : mS} (h : LE σ d m V) (hV : ∀ f, f < m → ∀ k, k < wd d → em (V f k) (V' f k)) : LE σ d m V' := by
  obtain ⟨a, b, c1, c2, c3, c4, c5⟩ := h
  exact ⟨a, b, fun f hf k hk => em_t (c1 f hf k hk) (em_sm m (fun g hg => em_mul (em_r _) (hV g hg k hk))), c2, c3, fun g hg => inS_cg (fun f hf k hk => em_r _) (hV g hg) (c4 g hg), Ind_cg hV c5⟩
theorem X3_keep_r51 {N d m q1 : Nat} {z : Int} {V : Nat → Nat → Int} {v : Nat → Int} {σ : mS} (hN : 1000 ≤ N) (hd : d ≤ 6) (hC : CLy σ) (hL : LE σ d m V) (hq1 : q1 < 64) (hv : ∀ k, k < wd d → σ 51 (64 * d + q1) k = v k) (hnv : nmW v (wd d)) :
    ∃ (b : Bool) (σ' : mS), f_X3_keepIfFree_r51 N d (64 * d + q1) z σ = some (bi b, σ') ∧ kp d σ σ' ∧ ((b = false ∧ inS V m (wd d) v ∧ fr [59, 60] σ σ') ∨ (b = true ∧ ¬ inS V m (wd d) v ∧ LE σ' d (m + 1) (fun f => if f = m then v else V f) ∧ σ' 53 d m = z ∧ ∀ f, f ≠ m → σ' 53 d f = σ 53 d f)) := by
  have h28 := (wd_6 d (List.mem_range.mpr (by omega))).1
  have hmW := EL_le hL.2.2
  obtain ⟨hC0, hC1, hC2⟩ := hC d hd
  -- copy and clear
  generalize hs0 : msv (mcp σ 51 (64 * d + q1) 0 59 d 0 (wd d : Int)) 60 d (wd d) 0 = s0
  have f0 : fr [59, 60] σ s0 := by
    subst hs0
    intro r' i k hr'
    unfold msv
    rw [if_neg (fun y => hr' (by rw [y.1]; decide)), mcp_r (Or.inl (fun y => hr' (by rw [y]; decide)))]
  have w0 : ∀ k, k < wd d → s0 59 d k = v k := fun k hk => by
    subst hs0
    unfold msv
    rw [if_neg (fun y => absurd y.1 (by decide)), mcp_in hk, hv k hk]
  have y0 : ∀ k, k < wd d → s0 60 d k = 0 := fun k hk => by
    subst hs0
    unfold msv
    rw [if_pos ⟨rfl, rfl, hk⟩]
  have hL0 : LE s0 d m V := LE_fr hL (f0 47 _ _ (by decide)) (fun f k _ => ⟨f0 55 _ _ (by decide), f0 57 _ _ (by decide)⟩) (fun f _ => f0 58 _ _ (by decide))
  have hC' : CLy s0 := CLy_kp hC (kp_wk (d := d) f0)
  obtain ⟨s1, a, t1, t2, t3, t4, t5, t6, t7⟩ := X3_reduce_eq (N := N) hN hd hC' hL0 (fun k hk => by rw [w0 k hk]; exact hnv k hk) y0
  have f1 := fr_trans f0 t2
  have hC1' : CLy s1 := CLy_kp hC (kp_wk (d := d) f1)
  obtain ⟨p, u1, u2⟩ := X3_first_eq (N := N) (σ := s1) hN hd hC1'
  have hRd : Rd (fun f k => s0 55 (64 * d + f) k) (fun f => (s0 58 d f).toNat) m (wd d) v (s1 59 d) a := ⟨fun k hk => by rw [← w0 k hk]; exact t5.1 k hk, t5.2⟩
  have hdec := EL_dec hL0.2.2 hRd
  unfold f_X3_keepIfFree_r51
  rw [hC1, gwd_wd, d64 hq1, gwd_wd, if_pos (by omega), fill_r60 hN hd, hs0, Option.bind_some, t1, Option.bind_some, u1, Option.bind_some]
  try dsimp only
  rcases u2 with ⟨rfl, hz⟩ | ⟨q, hq, rfl, hnz⟩
  · rw [if_pos rfl]
    exact ⟨false, s1, rfl, kp_wk f1, Or.inl ⟨rfl, hdec.mpr (fun k hk => by rw [hz k hk]; exact em_r _), f1⟩⟩
  · have h7 : s1 47 d 7 = (m : Int) := by rw [f1 47 _ _ (by decide)]; exact hL.1
    have h1w : s1 47 d 1 = (wd d : Int) := by rw [f1 47 _ _ (by decide)]; exact hC1
    have hrq := t3 q hq
    have hnot : ¬ inS V m (wd d) v := fun hin => by
      have := hdec.mp hin q hq
      exact hnz ((em_0 hrq).mp this)
    obtain ⟨lead, hlead⟩ : ∃ l : Nat, s1 59 d q = (l : Int) := ⟨(s1 59 d q).toNat, by omega⟩
    have hl0 : 0 < lead := by
      rcases Nat.eq_zero_or_pos lead with e | e
      · exfalso; apply hnz; rw [hlead, e]; rfl
      · exact e
    have hivl := iv_lt lead
    have hn1 : em ((iv lead : Int) * s1 59 d q) 1 := by
      rw [hlead]
      unfold em
      rw [← Int.natCast_mul]
      have := iv_ok hl0 (by omega)
      omega
    -- no more rows than places
    have hm1 : m < wd d := by
      have hEx : EL (fun f => if f = m then v else V f) (m + 1) (wd d) (fun f k => if f = m then s1 59 d k * (iv lead : Int) else s0 55 (64 * d + f) k) (fun f g => if f = m then (if g = m then (iv lead : Int) else s1 60 d g * (iv lead : Int)) else (if g = m then 0 else s0 57 (64 * d + f) g)) (fun f => if f = m then q else (s0 58 d f).toNat) := by
        refine EL_app (y := fun g => -(s1 60 d g)) (n := (iv lead : Int)) (w' := s1 59 d) (a := a) (q := q) hL0.2.2 (fun f hf k hk => by rw [if_neg (by omega)]) (by rw [if_pos rfl]; exact hRd) (fun g hg => ?_) hq hn1 (fun f hf k hk => by rw [if_neg (by omega)]) (fun f hf g hg => by rw [if_neg (by omega), if_neg (by omega)]) (fun f hf => by rw [if_neg (by omega), if_pos rfl]; exact em_r _) (fun f hf => by rw [if_neg (by omega)]) (fun k hk => by rw [if_pos rfl]; exact em_r _) (fun g hg => by rw [if_pos rfl, if_neg (by omega), Int.neg_neg]; exact em_r _) (by rw [if_pos rfl, if_pos rfl]; exact em_r _) (by rw [if_pos rfl])
        have := em_neg (t6 g hg)
        rw [Int.neg_neg] at this
        exact this
      exact EL_le hEx
    rw [if_neg (by omega), h7, h1w, if_pos (by omega), if_pos (by omega), tN, tN, hlead, X11_inverse_eq (by omega) (by omega), Option.bind_some]
    try dsimp only
    generalize hs2 : mup s1 60 d m 1 = s2
    have f2 : fr [59, 60] σ s2 := by subst hs2; exact fr_mup f1 (by decide)
    have w2 : ∀ k, k < wd d → s2 59 d k = s1 59 d k := fun k _ => by subst hs2; rw [mup_r (by decide)]
    have y2 : ∀ k, k < wd d → s2 60 d k = if k = m then 1 else s1 60 d k := fun k _ => by
      subst hs2
      by_cases e : k = m
      · subst e; rw [mup_s, if_pos rfl]
      · rw [mup_k e, if_neg e]
    have y2r : ∀ k, k < wd d → 0 ≤ s2 60 d k ∧ s2 60 d k < 32003 := fun k hk => by
      rw [y2 k hk]
      split
      · omega
      · exact t4 k hk
    obtain ⟨s3, e3, k1, k2, k3, k4⟩ := lp_0 (L := fun g k s => L_X3_keepIfFree_r51_73 N g d z (q : Int) (iv lead : Int) k s) (I := fun k s => fr [55, 57] s2 s ∧ (∀ i k', i ≠ 64 * d + m → s 55 i k' = s2 55 i k' ∧ s 57 i k' = s2 57 i k') ∧ (∀ k', k' < k → s 55 (64 * d + m) k' = s2 59 d k' * (iv lead : Int) % 32003 ∧ s 57 (64 * d + m) k' = s2 60 d k' * (iv lead : Int) % 32003)) (P := fun s => fr [55, 57] s2 s ∧ (∀ i k', i ≠ 64 * d + m → s 55 i k' = s2 55 i k' ∧ s 57 i k' = s2 57 i k') ∧ (∀ k', k' < wd d → s 55 (64 * d + m) k' = s2 59 d k' * (iv lead : Int) % 32003 ∧ s 57 (64 * d + m) k' = s2 60 d k' * (iv lead : Int) % 32003) ∧ True) (wd d) (fun g k s hk hI => by
        obtain ⟨k1, k2, k3⟩ := hI
        left
        have b1 := ml_rg (show 0 ≤ s2 59 d k ∧ s2 59 d k < 32003 by rw [w2 k hk]; exact t3 k hk) (show 0 ≤ (iv lead : Int) ∧ (iv lead : Int) < 32003 by omega)
        have b2 := ml_rg (y2r k hk) (show 0 ≤ (iv lead : Int) ∧ (iv lead : Int) < 32003 by omega)
        try dsimp only
        rw [L_X3_keepIfFree_r51_73_s, k1 47 _ _ (by decide), f2 47 _ _ (by decide), hC1, if_neg (by omega), k1 47 _ _ (by decide), f2 47 _ _ (by decide), hL.1, tN, d64 (show m < 64 by omega), gwd_wd, if_pos (by omega), tN, k1 59 _ _ (by decide), k1 60 _ _ (by decide), rem_md b1.1 (by omega), rem_md b2.1 (by omega), mw_s (by omega)]
        refine ⟨_, rfl, fr_mup (fr_mup k1 (by decide)) (by decide), fun i k' hi => ?_, fun k' hk' => ?_⟩
        · rw [mup_r (by decide), mup_i hi, mup_i hi, mup_r (by decide)]
          exact k2 i k' hi
        · by_cases e : k' = k
          · subst e
            rw [mup_r (by decide), mup_s, mup_s]
            exact ⟨rfl, rfl⟩
          · rw [mup_r (by decide), mup_k e, mup_k e, mup_r (by decide)]
            exact k3 k' (by omega)) (fun g s hI => by
        refine ⟨s, ?_, hI.1, hI.2.1, hI.2.2, trivial⟩
        try dsimp only
        rw [L_X3_keepIfFree_r51_73_s, hI.1 47 _ _ (by decide), f2 47 _ _ (by decide), hC1, if_pos (by omega)]) (f := N) (s := s2) (by omega) ⟨fr_rfl, fun _ _ _ => ⟨rfl, rfl⟩, fun k' h => absurd h (Nat.not_lt_zero _)⟩
    try dsimp only at e3
    have h73 : s3 47 d 7 = (m : Int) := by rw [k1 47 _ _ (by decide), f2 47 _ _ (by decide)]; exact hL.1
    rw [e3, Option.bind_some, h73, if_pos (by omega), tN, mw_s (by omega)]
    have f3 : fr [55, 57, 59, 60] σ s3 := fr_trans (fr_sub f2 (fun r hr => by simp at hr ⊢; omega)) (fr_sub k1 (fun r hr => by simp at hr ⊢; omega))
    generalize hs4 : mup (mup (mup s3 58 d m (q : Int)) 53 d m z) 47 d 7 ((m + 1 : Nat) : Int) = s4
    have g55 : ∀ i k, s4 55 i k = s3 55 i k := fun i k => by subst hs4; rw [mup_r (by decide), mup_r (by decide), mup_r (by decide)]
    have g57 : ∀ i k, s4 57 i k = s3 57 i k := fun i k => by subst hs4; rw [mup_r (by decide), mup_r (by decide), mup_r (by decide)]
    have g58 : ∀ f, f ≠ m → s4 58 d f = σ 58 d f := fun f hf => by subst hs4; rw [mup_r (by decide), mup_r (by decide), mup_k hf, f3 58 _ _ (by decide)]
    have g58m : s4 58 d m = (q : Int) := by subst hs4; rw [mup_r (by decide), mup_r (by decide), mup_s]
    have o55 : ∀ f k, f < m → s4 55 (64 * d + f) k = s0 55 (64 * d + f) k := fun f k hf => by rw [g55, (k2 _ _ (by omega)).1, f2 55 _ _ (by decide), f0 55 _ _ (by decide)]
    have o57 : ∀ f k, f < m → s4 57 (64 * d + f) k = s0 57 (64 * d + f) k := fun f k hf => by rw [g57, (k2 _ _ (by omega)).2, f2 57 _ _ (by decide), f0 57 _ _ (by decide)]
    refine ⟨true, s4, rfl, ⟨?_, fun i k hik => ?_, fun i k hi => ⟨?_, ?_⟩, fun i k hi => ⟨?_, ?_⟩⟩, Or.inr ⟨rfl, hnot, ⟨?_, fun f hf => ?_, ?_⟩, ?_, fun f hf => ?_⟩⟩
    · subst hs4
      exact fr_mup (fr_mup (fr_mup (fr_sub f3 (fun r hr => by simp at hr ⊢; omega)) (by decide)) (by decide)) (by decide)
    · subst hs4
      rw [mup_def, if_neg (fun y => hik ⟨y.2.1, y.2.2⟩), mup_r (by decide), mup_r (by decide), f3 47 _ _ (by decide)]
    · subst hs4
      rw [mup_r (by decide), mup_i hi, mup_r (by decide), f3 53 _ _ (by decide)]
    · subst hs4
      rw [mup_r (by decide), mup_r (by decide), mup_i hi, f3 58 _ _ (by decide)]
    · rw [g55, (k2 i k (fun y => hi (by rw [y]; exact d64 (by omega)))).1, f2 55 _ _ (by decide)]
    · rw [g57, (k2 i k (fun y => hi (by rw [y]; exact d64 (by omega)))).2, f2 57 _ _ (by decide)]
    · subst hs4; exact mup_s _ _ _ _ _
    · by_cases e : f = m
      · subst e
        refine ⟨fun k hk => by rw [g55, (k3 k hk).1]; exact md_lt _, fun k hk => by rw [g57, (k3 k hk).2]; exact md_lt _, by rw [g58m]; omega, fun g h1 h2 => ?_⟩
        rw [g57, (k3 g h2).2, y2 g h2, if_neg (by omega), t7 g (by omega) h2, Int.zero_mul]
        rfl
      · obtain ⟨b1, b2, b3, b4⟩ := hL0.2.1 f (by omega)
        refine ⟨fun k hk => by rw [o55 f k (by omega)]; exact b1 k hk, fun k hk => by rw [o57 f k (by omega)]; exact b2 k hk, by rw [g58 f e, ← f0 58 d f (by decide)]; exact b3, fun g h1 h2 => by rw [o57 f g (by omega)]; exact b4 g h1 h2⟩
    · refine EL_app (y := fun g => -(s1 60 d g)) (n := (iv lead : Int)) (w' := s1 59 d) (a := a) (q := q) hL0.2.2 (fun f hf k hk => by rw [if_neg (by omega)]) (by rw [if_pos rfl]; exact hRd) (fun g hg => ?_) hq hn1 (fun f hf k hk => ?_) (fun f hf g hg => ?_) (fun f hf => ?_) (fun f hf => ?_) (fun k hk => ?_) (fun g hg => ?_) ?_ ?_
      · have := em_neg (t6 g hg)
        rw [Int.neg_neg] at this
        exact this
      · exact o55 f k hf
      · exact o57 f g hf
      · try dsimp only
        rw [o57 f m hf, (hL0.2.1 f hf).2.2.2 m hf hm1]
        exact em_r _
      · try dsimp only
        rw [g58 f (by omega), f0 58 d f (by decide)]
      · try dsimp only
        rw [g55, (k3 k hk).1, w2 k hk]
        exact em_md _
      · try dsimp only
        rw [g57, (k3 g (by omega)).2, y2 g (by omega), if_neg (by omega), Int.neg_neg]
        exact em_md _
      · try dsimp only
        rw [g57, (k3 m hm1).2, y2 m hm1, if_pos rfl, Int.one_mul]
        exact em_md _
      · try dsimp only
        rw [g58m]; omega
    · subst hs4; rw [mup_r (by decide), mup_s]
    · subst hs4; rw [mup_r (by decide), mup_k hf, mup_r (by decide), f3 53 _ _ (by decide)]
theorem X3_keep_r46 {N d m : Nat} {z : Int} {V : Nat → Nat → Int} {v : Nat → Int} {σ : mS} (hN : 1000 ≤ N) (hd : d ≤ 6) (hC : CLy σ) (hL : LE σ d m V) (hv : ∀ k, k < wd d → σ 46 0 k = v k) (hnv : nmW v (wd d)) :
    ∃ (b : Bool) (σ' : mS), f_X3_keepIfFree_r46 N d z σ = some (bi b, σ') ∧ kp d σ σ' ∧ ((b = false ∧ inS V m (wd d) v ∧ fr [59, 60] σ σ') ∨ (b = true ∧ ¬ inS V m (wd d) v ∧ LE σ' d (m + 1) (fun f => if f = m then v else V f) ∧ σ' 53 d m = z ∧ ∀ f, f ≠ m → σ' 53 d f = σ 53 d f)) := by
  have h28 := (wd_6 d (List.mem_range.mpr (by omega))).1
  have hmW := EL_le hL.2.2
  obtain ⟨hC0, hC1, hC2⟩ := hC d hd
  -- copy and clear
  generalize hs0 : msv (mcp σ 46 0 0 59 d 0 (wd d : Int)) 60 d (wd d) 0 = s0
  have f0 : fr [59, 60] σ s0 := by
    subst hs0
    intro r' i k hr'
    unfold msv
    rw [if_neg (fun y => hr' (by rw [y.1]; decide)), mcp_r (Or.inl (fun y => hr' (by rw [y]; decide)))]
  have w0 : ∀ k, k < wd d → s0 59 d k = v k := fun k hk => by
    subst hs0
    unfold msv
    rw [if_neg (fun y => absurd y.1 (by decide)), mcp_in hk, hv k hk]
  have y0 : ∀ k, k < wd d → s0 60 d k = 0 := fun k hk => by
    subst hs0
    unfold msv
    rw [if_pos ⟨rfl, rfl, hk⟩]
  have hL0 : LE s0 d m V := LE_fr hL (f0 47 _ _ (by decide)) (fun f k _ => ⟨f0 55 _ _ (by decide), f0 57 _ _ (by decide)⟩) (fun f _ => f0 58 _ _ (by decide))
  have hC' : CLy s0 := CLy_kp hC (kp_wk (d := d) f0)
  obtain ⟨s1, a, t1, t2, t3, t4, t5, t6, t7⟩ := X3_reduce_eq (N := N) hN hd hC' hL0 (fun k hk => by rw [w0 k hk]; exact hnv k hk) y0
  have f1 := fr_trans f0 t2
  have hC1' : CLy s1 := CLy_kp hC (kp_wk (d := d) f1)
  obtain ⟨p, u1, u2⟩ := X3_first_eq (N := N) (σ := s1) hN hd hC1'
  have hRd : Rd (fun f k => s0 55 (64 * d + f) k) (fun f => (s0 58 d f).toNat) m (wd d) v (s1 59 d) a := ⟨fun k hk => by rw [← w0 k hk]; exact t5.1 k hk, t5.2⟩
  have hdec := EL_dec hL0.2.2 hRd
  unfold f_X3_keepIfFree_r46
  rw [hC1, gwd_wd, if_pos (by omega), fill_r60 hN hd, hs0, Option.bind_some, t1, Option.bind_some, u1, Option.bind_some]
  try dsimp only
  rcases u2 with ⟨rfl, hz⟩ | ⟨q, hq, rfl, hnz⟩
  · rw [if_pos rfl]
    exact ⟨false, s1, rfl, kp_wk f1, Or.inl ⟨rfl, hdec.mpr (fun k hk => by rw [hz k hk]; exact em_r _), f1⟩⟩
  · have h7 : s1 47 d 7 = (m : Int) := by rw [f1 47 _ _ (by decide)]; exact hL.1
    have h1w : s1 47 d 1 = (wd d : Int) := by rw [f1 47 _ _ (by decide)]; exact hC1
    have hrq := t3 q hq
    have hnot : ¬ inS V m (wd d) v := fun hin => by
      have := hdec.mp hin q hq
      exact hnz ((em_0 hrq).mp this)
    obtain ⟨lead, hlead⟩ : ∃ l : Nat, s1 59 d q = (l : Int) := ⟨(s1 59 d q).toNat, by omega⟩
    have hl0 : 0 < lead := by
      rcases Nat.eq_zero_or_pos lead with e | e
      · exfalso; apply hnz; rw [hlead, e]; rfl
      · exact e
    have hivl := iv_lt lead
    have hn1 : em ((iv lead : Int) * s1 59 d q) 1 := by
      rw [hlead]
      unfold em
      rw [← Int.natCast_mul]
      have := iv_ok hl0 (by omega)
      omega
    -- no more rows than places
    have hm1 : m < wd d := by
      have hEx : EL (fun f => if f = m then v else V f) (m + 1) (wd d) (fun f k => if f = m then s1 59 d k * (iv lead : Int) else s0 55 (64 * d + f) k) (fun f g => if f = m then (if g = m then (iv lead : Int) else s1 60 d g * (iv lead : Int)) else (if g = m then 0 else s0 57 (64 * d + f) g)) (fun f => if f = m then q else (s0 58 d f).toNat) := by
        refine EL_app (y := fun g => -(s1 60 d g)) (n := (iv lead : Int)) (w' := s1 59 d) (a := a) (q := q) hL0.2.2 (fun f hf k hk => by rw [if_neg (by omega)]) (by rw [if_pos rfl]; exact hRd) (fun g hg => ?_) hq hn1 (fun f hf k hk => by rw [if_neg (by omega)]) (fun f hf g hg => by rw [if_neg (by omega), if_neg (by omega)]) (fun f hf => by rw [if_neg (by omega), if_pos rfl]; exact em_r _) (fun f hf => by rw [if_neg (by omega)]) (fun k hk => by rw [if_pos rfl]; exact em_r _) (fun g hg => by rw [if_pos rfl, if_neg (by omega), Int.neg_neg]; exact em_r _) (by rw [if_pos rfl, if_pos rfl]; exact em_r _) (by rw [if_pos rfl])
        have := em_neg (t6 g hg)
        rw [Int.neg_neg] at this
        exact this
      exact EL_le hEx
    rw [if_neg (by omega), h7, h1w, if_pos (by omega), if_pos (by omega), tN, tN, hlead, X11_inverse_eq (by omega) (by omega), Option.bind_some]
    try dsimp only
    generalize hs2 : mup s1 60 d m 1 = s2
    have f2 : fr [59, 60] σ s2 := by subst hs2; exact fr_mup f1 (by decide)
    have w2 : ∀ k, k < wd d → s2 59 d k = s1 59 d k := fun k _ => by subst hs2; rw [mup_r (by decide)]
    have y2 : ∀ k, k < wd d → s2 60 d k = if k = m then 1 else s1 60 d k := fun k _ => by
      subst hs2
      by_cases e : k = m
      · subst e; rw [mup_s, if_pos rfl]
      · rw [mup_k e, if_neg e]
    have y2r : ∀ k, k < wd d → 0 ≤ s2 60 d k ∧ s2 60 d k < 32003 := fun k hk => by
      rw [y2 k hk]
      split
      · omega
      · exact t4 k hk
    obtain ⟨s3, e3, k1, k2, k3, k4⟩ := lp_0 (L := fun g k s => L_X3_keepIfFree_r46_73 N g d z (q : Int) (iv lead : Int) k s) (I := fun k s => fr [55, 57] s2 s ∧ (∀ i k', i ≠ 64 * d + m → s 55 i k' = s2 55 i k' ∧ s 57 i k' = s2 57 i k') ∧ (∀ k', k' < k → s 55 (64 * d + m) k' = s2 59 d k' * (iv lead : Int) % 32003 ∧ s 57 (64 * d + m) k' = s2 60 d k' * (iv lead : Int) % 32003)) (P := fun s => fr [55, 57] s2 s ∧ (∀ i k', i ≠ 64 * d + m → s 55 i k' = s2 55 i k' ∧ s 57 i k' = s2 57 i k') ∧ (∀ k', k' < wd d → s 55 (64 * d + m) k' = s2 59 d k' * (iv lead : Int) % 32003 ∧ s 57 (64 * d + m) k' = s2 60 d k' * (iv lead : Int) % 32003) ∧ True) (wd d) (fun g k s hk hI => by
        obtain ⟨k1, k2, k3⟩ := hI
        left
        have b1 := ml_rg (show 0 ≤ s2 59 d k ∧ s2 59 d k < 32003 by rw [w2 k hk]; exact t3 k hk) (show 0 ≤ (iv lead : Int) ∧ (iv lead : Int) < 32003 by omega)
        have b2 := ml_rg (y2r k hk) (show 0 ≤ (iv lead : Int) ∧ (iv lead : Int) < 32003 by omega)
        try dsimp only
        rw [L_X3_keepIfFree_r46_73_s, k1 47 _ _ (by decide), f2 47 _ _ (by decide), hC1, if_neg (by omega), k1 47 _ _ (by decide), f2 47 _ _ (by decide), hL.1, tN, d64 (show m < 64 by omega), gwd_wd, if_pos (by omega), tN, k1 59 _ _ (by decide), k1 60 _ _ (by decide), rem_md b1.1 (by omega), rem_md b2.1 (by omega), mw_s (by omega)]
        refine ⟨_, rfl, fr_mup (fr_mup k1 (by decide)) (by decide), fun i k' hi => ?_, fun k' hk' => ?_⟩
        · rw [mup_r (by decide), mup_i hi, mup_i hi, mup_r (by decide)]
          exact k2 i k' hi
        · by_cases e : k' = k
          · subst e
            rw [mup_r (by decide), mup_s, mup_s]
            exact ⟨rfl, rfl⟩
          · rw [mup_r (by decide), mup_k e, mup_k e, mup_r (by decide)]
            exact k3 k' (by omega)) (fun g s hI => by
        refine ⟨s, ?_, hI.1, hI.2.1, hI.2.2, trivial⟩
        try dsimp only
        rw [L_X3_keepIfFree_r46_73_s, hI.1 47 _ _ (by decide), f2 47 _ _ (by decide), hC1, if_pos (by omega)]) (f := N) (s := s2) (by omega) ⟨fr_rfl, fun _ _ _ => ⟨rfl, rfl⟩, fun k' h => absurd h (Nat.not_lt_zero _)⟩
    try dsimp only at e3
    have h73 : s3 47 d 7 = (m : Int) := by rw [k1 47 _ _ (by decide), f2 47 _ _ (by decide)]; exact hL.1
    rw [e3, Option.bind_some, h73, if_pos (by omega), tN, mw_s (by omega)]
    have f3 : fr [55, 57, 59, 60] σ s3 := fr_trans (fr_sub f2 (fun r hr => by simp at hr ⊢; omega)) (fr_sub k1 (fun r hr => by simp at hr ⊢; omega))
    generalize hs4 : mup (mup (mup s3 58 d m (q : Int)) 53 d m z) 47 d 7 ((m + 1 : Nat) : Int) = s4
    have g55 : ∀ i k, s4 55 i k = s3 55 i k := fun i k => by subst hs4; rw [mup_r (by decide), mup_r (by decide), mup_r (by decide)]
    have g57 : ∀ i k, s4 57 i k = s3 57 i k := fun i k => by subst hs4; rw [mup_r (by decide), mup_r (by decide), mup_r (by decide)]
    have g58 : ∀ f, f ≠ m → s4 58 d f = σ 58 d f := fun f hf => by subst hs4; rw [mup_r (by decide), mup_r (by decide), mup_k hf, f3 58 _ _ (by decide)]
    have g58m : s4 58 d m = (q : Int) := by subst hs4; rw [mup_r (by decide), mup_r (by decide), mup_s]
    have o55 : ∀ f k, f < m → s4 55 (64 * d + f) k = s0 55 (64 * d + f) k := fun f k hf => by rw [g55, (k2 _ _ (by omega)).1, f2 55 _ _ (by decide), f0 55 _ _ (by decide)]
    have o57 : ∀ f k, f < m → s4 57 (64 * d + f) k = s0 57 (64 * d + f) k := fun f k hf => by rw [g57, (k2 _ _ (by omega)).2, f2 57 _ _ (by decide), f0 57 _ _ (by decide)]
    refine ⟨true, s4, rfl, ⟨?_, fun i k hik => ?_, fun i k hi => ⟨?_, ?_⟩, fun i k hi => ⟨?_, ?_⟩⟩, Or.inr ⟨rfl, hnot, ⟨?_, fun f hf => ?_, ?_⟩, ?_, fun f hf => ?_⟩⟩
    · subst hs4
      exact fr_mup (fr_mup (fr_mup (fr_sub f3 (fun r hr => by simp at hr ⊢; omega)) (by decide)) (by decide)) (by decide)
    · subst hs4
      rw [mup_def, if_neg (fun y => hik ⟨y.2.1, y.2.2⟩), mup_r (by decide), mup_r (by decide), f3 47 _ _ (by decide)]
    · subst hs4
      rw [mup_r (by decide), mup_i hi, mup_r (by decide), f3 53 _ _ (by decide)]
    · subst hs4
      rw [mup_r (by decide), mup_r (by decide), mup_i hi, f3 58 _ _ (by decide)]
    · rw [g55, (k2 i k (fun y => hi (by rw [y]; exact d64 (by omega)))).1, f2 55 _ _ (by decide)]
    · rw [g57, (k2 i k (fun y => hi (by rw [y]; exact d64 (by omega)))).2, f2 57 _ _ (by decide)]
    · subst hs4; exact mup_s _ _ _ _ _
    · by_cases e : f = m
      · subst e
        refine ⟨fun k hk => by rw [g55, (k3 k hk).1]; exact md_lt _, fun k hk => by rw [g57, (k3 k hk).2]; exact md_lt _, by rw [g58m]; omega, fun g h1 h2 => ?_⟩
        rw [g57, (k3 g h2).2, y2 g h2, if_neg (by omega), t7 g (by omega) h2, Int.zero_mul]
        rfl
      · obtain ⟨b1, b2, b3, b4⟩ := hL0.2.1 f (by omega)
        refine ⟨fun k hk => by rw [o55 f k (by omega)]; exact b1 k hk, fun k hk => by rw [o57 f k (by omega)]; exact b2 k hk, by rw [g58 f e, ← f0 58 d f (by decide)]; exact b3, fun g h1 h2 => by rw [o57 f g (by omega)]; exact b4 g h1 h2⟩
    · refine EL_app (y := fun g => -(s1 60 d g)) (n := (iv lead : Int)) (w' := s1 59 d) (a := a) (q := q) hL0.2.2 (fun f hf k hk => by rw [if_neg (by omega)]) (by rw [if_pos rfl]; exact hRd) (fun g hg => ?_) hq hn1 (fun f hf k hk => ?_) (fun f hf g hg => ?_) (fun f hf => ?_) (fun f hf => ?_) (fun k hk => ?_) (fun g hg => ?_) ?_ ?_
      · have := em_neg (t6 g hg)
        rw [Int.neg_neg] at this
        exact this
      · exact o55 f k hf
      · exact o57 f g hf
      · try dsimp only
        rw [o57 f m hf, (hL0.2.1 f hf).2.2.2 m hf hm1]
        exact em_r _
      · try dsimp only
        rw [g58 f (by omega), f0 58 d f (by decide)]
      · try dsimp only
        rw [g55, (k3 k hk).1, w2 k hk]
        exact em_md _
      · try dsimp only
        rw [g57, (k3 g (by omega)).2, y2 g (by omega), if_neg (by omega), Int.neg_neg]
        exact em_md _
      · try dsimp only
        rw [g57, (k3 m hm1).2, y2 m hm1, if_pos rfl, Int.one_mul]
        exact em_md _
      · try dsimp only
        rw [g58m]; omega
    · subst hs4; rw [mup_r (by decide), mup_s]
    · subst hs4; rw [mup_r (by decide), mup_k hf, mup_r (by decide), f3 53 _ _ (by decide)]
