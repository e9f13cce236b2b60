/-! the reference's products, turns, means -/
def mri (R : Nat → Int) (z : Int) (a c B : Nat) : Int := sm (fun b => if a + b = c then z * PR R b else 0) B
def mrp (Q R : Nat → Int) (c A : Nat) : Int := sm (fun a => mri R (PR Q a) a c 729) A
theorem PR_nz {Q : Nat → Int} {a : Nat} (h : PR Q a ≠ 0) : dg a ≤ 8 ∧ Q (xa a) ≠ 0 := by
  unfold PR at h
  by_cases hd : dg a ≤ 8
  · rw [if_pos hd] at h; exact ⟨hd, h⟩
  · rw [if_neg hd] at h; exact absurd rfl h
theorem mrp_mlp (Q R : Nat → Int) {k : Nat} (hk : k < 165) : mrp Q R (ax k) 729 = mlp Q R k 165 := by
  unfold mrp mlp
  rw [← sm_re (F := fun a => mri R (PR Q a) a (ax k) 729) (u := ax) (m := 165) (n := 729) (fun x hx => ax_lt hx) (fun x y hx hy h => ax_inj hx hy h) (fun a ha h => by
    have : PR Q a = 0 := by
      by_cases e : PR Q a = 0
      · exact e
      · have hd := (PR_nz e).1
        exact absurd (ax_xa ha hd) (h _ (xa_lt ha hd))
    show mri R (PR Q a) a (ax k) 729 = 0
    rw [this]
    exact sm_z (fun b _ => by simp))]
  refine sm_cg 165 (fun x hx => ?_)
  show mri R (PR Q (ax x)) (ax x) (ax k) 729 = mlr R (Q x) x k 165
  rw [PR_ax Q hx]
  unfold mri mlr
  rw [← sm_re (F := fun b => if ax x + b = ax k then Q x * PR R b else 0) (u := ax) (m := 165) (n := 729) (fun x hx => ax_lt hx) (fun x y hx hy h => ax_inj hx hy h) (fun a ha h => by
    have : PR R a = 0 := by
      by_cases e : PR R a = 0
      · exact e
      · have hd := (PR_nz e).1
        exact absurd (ax_xa ha hd) (h _ (xa_lt ha hd))
    show (if ax x + a = ax k then Q x * PR R a else 0) = 0
    rw [this]
    simp)]
  refine sm_cg 165 (fun y hy => ?_)
  show (if ax x + ax y = ax k then Q x * PR R (ax y) else 0) = _
  rw [PR_ax R hy]
/-- numbers whose degrees together are 8 at most: their sum is again one -/
theorem add_ax {a b : Nat} (ha : a < 729) (hb : b < 729) (h1 : dg a ≤ 8) (h2 : dg b ≤ 8) (h : dg a + dg b ≤ 8) : a + b < 729 ∧ dg (a + b) = dg a + dg b := by
  have e1 := ax_xa ha h1
  have e2 := ax_xa hb h2
  have l1 := xa_lt ha h1
  have l2 := xa_lt hb h2
  have d1 : pD (xa a) = dg a := by rw [← dg_ax l1, e1]
  have d2 : pD (xa b) = dg b := by rw [← dg_ax l2, e2]
  have hh : pD (xa a) + pD (xa b) ≤ 8 := by omega
  have hp := ax_pr hh
  have hx := ixn_ok (i := pI (xa a) + pI (xa b)) (j := pJ (xa a) + pJ (xa b)) (k := pK (xa a) + pK (xa b)) (by unfold pD at hh; omega)
  rw [e1, e2] at hp
  rw [← hp]
  refine ⟨ax_lt hx.1, ?_⟩
  rw [dg_ax hx.1]
  unfold pD at d1 d2 ⊢
  rw [hx.2.1, hx.2.2.1, hx.2.2.2]
  omega
theorem X12_mul_in {N q r a : Nat} {z : Int} {Q R S : Nat → Int} {P : Nat → Nat → Int} {σ : mS} (hN : 1000 ≤ N) (hr : r < 8) (ha : a < 729) (hz : 0 ≤ z ∧ z < 32003) (hP : RP σ P) (hnr : nm (P r)) (hS : ∀ c, c < 729 → σ 81 0 (5832 + c) = S c % 32003) (hda : dg a ≤ 8) (hd : ∀ b, b < 729 → PR (P r) b ≠ 0 → dg a + dg b ≤ 8) :
    ∃ σ', L_X12_multiply_42 N N 8 (q : Int) (r : Int) (a : Int) z 0 σ = some σ' ∧ fr [81] σ σ' ∧ (∀ c, c < 5832 ∨ 6561 ≤ c → σ' 81 0 c = σ 81 0 c) ∧ ∀ c, c < 729 → σ' 81 0 (5832 + c) = (S c + mri (P r) z a c 729) % 32003 := by
  obtain ⟨s1, e, h⟩ := lp_0 (L := fun f b s => L_X12_multiply_42 N f 8 (q : Int) (r : Int) (a : Int) z b s) (I := fun b s => fr [81] σ s ∧ (∀ c, c < 5832 ∨ 6561 ≤ c → s 81 0 c = σ 81 0 c) ∧ ∀ c, c < 729 → s 81 0 (5832 + c) = (S c + mri (P r) z a c b) % 32003)
    (P := fun s => fr [81] σ s ∧ (∀ c, c < 5832 ∨ 6561 ≤ c → s 81 0 c = σ 81 0 c) ∧ ∀ c, c < 729 → s 81 0 (5832 + c) = (S c + mri (P r) z a c 729) % 32003) 729 (fun f b s hb hI => by
      obtain ⟨h1, h2, h3⟩ := hI
      left
      have hrow : s 81 0 (729 * r + b) = PR (P r) b := by rw [h2 _ (by omega)]; exact hP r hr b hb
      have hrg := PR_rg hnr hb
      have a1 := ml_rg hz hrg
      have x1 : mw (mw (mw (729 * (8 : Int)) + (a : Int)) + (b : Int)) = ((5832 + (a + b) : Nat) : Int) := by
        rw [show mw (729 * (8 : Int)) = 5832 from by decide, mw_id (z := (5832 : Int) + (a : Int)) (by omega) (by omega), mw_id (by omega) (by omega)]; omega
      try dsimp only
      rw [L_X12_multiply_42_s, if_neg (by omega), mw729 (show r < 10 by omega) hb, if_pos (by omega), tN, hrow, mw_s (by omega), x1]
      by_cases e0 : PR (P r) b = 0
      · rw [if_pos e0]
        refine ⟨_, rfl, h1, h2, fun c hc => ?_⟩
        rw [h3 c hc]
        show _ = (S c + (mri (P r) z a c b + (if a + b = c then z * PR (P r) b else 0))) % 32003
        rw [e0]; simp
      · have hdd := hd b hb e0
        obtain ⟨w1, w2⟩ := add_ax ha hb hda (PR_nz e0).1 hdd
        have hm := md_lt (S (a + b) + mri (P r) z a (a + b) b)
        rw [if_neg e0, if_pos (by omega), tN, h3 _ w1, mx_small (z := z * PR (P r) b) (by omega) (by omega), mx_small (by omega) (by omega), X12_left_eq (mx_small (by omega) (by omega)), Option.bind_some]
        try dsimp only
        rw [if_pos (by omega)]
        refine ⟨_, rfl, fr_mup h1 (by decide), fun c hc => by rw [mup_k (by omega)]; exact h2 c hc, fun c hc => ?_⟩
        show _ = (S c + (mri (P r) z a c b + (if a + b = c then z * PR (P r) b else 0))) % 32003
        by_cases ec : c = a + b
        · subst ec
          rw [mup_s, if_pos rfl, Int.emod_add_emod, Int.add_assoc]
        · rw [mup_k (by omega), if_neg (by omega), Int.add_zero, h3 c hc]) (fun f s hI => by
      refine ⟨s, ?_, hI⟩
      try dsimp only
      rw [L_X12_multiply_42_s, if_pos (by omega)]) (f := N) (s := σ) (by omega) ⟨fr_rfl, fun _ _ => rfl, fun c hc => by rw [hS c hc]; show S c % 32003 = (S c + 0) % 32003; rw [Int.add_zero]⟩
  exact ⟨s1, e, h⟩
/-- polynomial A in the row that is put aside -/
def RT (σ : mS) (A : Nat → Int) : Prop := ∀ a, a < 729 → σ 81 0 (5832 + a) = PR A a
theorem X12_multiply_eq {N q r : Nat} {P : Nat → Nat → Int} {σ : mS} (hN : 1000 ≤ N) (hq : q < 8) (hr : r < 8) (hP : RP σ P) (hnq : nm (P q)) (hnr : nm (P r)) (hd : pdg (P q) + pdg (P r) ≤ 8) :
    ∃ σ', f_X12_multiply N 8 (q : Int) (r : Int) σ = some σ' ∧ fr [81] σ σ' ∧ (∀ c, c < 5832 ∨ 6561 ≤ c → σ' 81 0 c = σ 81 0 c) ∧ RT σ' (mulP (P q) (P r)) := by
  obtain ⟨s0, c1, c2, c3, c4⟩ := X12_clear_eq (N := N) (p := 8) (σ := σ) hN (by decide)
  have P0 : RP s0 P := fun p' hp' a ha => by rw [c3 _ (by omega)]; exact hP p' hp' a ha
  have dgle : ∀ {p' a : Nat}, a < 729 → PR (P p') a ≠ 0 → (dg a : Int) ≤ pdg (P p') := fun {p' a} ha h => by
    obtain ⟨h1, h2⟩ := PR_nz h
    have := pdg_le (xa_lt ha h1) h2
    rw [← dg_ax (xa_lt ha h1), ax_xa ha h1] at this
    exact this
  obtain ⟨s1, e, h1, h2, h3⟩ := lp_0 (L := fun f a s => L_X12_multiply_8 N f 8 (q : Int) (r : Int) a s) (I := fun a s => fr [81] s0 s ∧ (∀ c, c < 5832 ∨ 6561 ≤ c → s 81 0 c = s0 81 0 c) ∧ ∀ c, c < 729 → s 81 0 (5832 + c) = mrp (P q) (P r) c a % 32003)
    (P := fun s => fr [81] s0 s ∧ (∀ c, c < 5832 ∨ 6561 ≤ c → s 81 0 c = s0 81 0 c) ∧ ∀ c, c < 729 → s 81 0 (5832 + c) = mrp (P q) (P r) c 729 % 32003) 729 (fun f a s ha hI => by
      obtain ⟨h1, h2, h3⟩ := hI
      left
      have Ps : RP s P := fun p' hp' a ha => by rw [h2 _ (by omega)]; exact P0 p' hp' a ha
      have hrow : s 81 0 (729 * q + a) = PR (P q) a := Ps q hq a ha
      try dsimp only
      rw [L_X12_multiply_8_s, if_neg (by omega), mw729 (show q < 10 by omega) ha, if_pos (by omega), tN, hrow, mw_s (by omega)]
      by_cases e0 : PR (P q) a = 0
      · rw [if_pos e0]
        refine ⟨_, rfl, h1, h2, fun c hc => ?_⟩
        rw [h3 c hc]
        show _ = (mrp (P q) (P r) c a + mri (P r) (PR (P q) a) a c 729) % 32003
        rw [e0, show mri (P r) 0 a c 729 = 0 from sm_z (fun b _ => by simp), Int.add_zero]
      · rw [if_neg e0]
        obtain ⟨s2, r1, r2, r3, r4⟩ := X12_mul_in (N := N) (q := q) (r := r) (a := a) (z := PR (P q) a) (Q := P q) (R := P r) (S := fun c => mrp (P q) (P r) c a) (P := P) (σ := s) hN hr ha (PR_rg hnq ha) Ps hnr h3 (PR_nz e0).1 (fun b hb h => by
          have := dgle ha e0
          have := dgle hb h
          omega)
        rw [r1, Option.bind_some]
        exact ⟨s2, rfl, fr_trans h1 r2, fun c hc => (r3 c hc).trans (h2 c hc), r4⟩) (fun f s hI => by
      refine ⟨s, ?_, hI⟩
      try dsimp only
      rw [L_X12_multiply_8_s, if_pos (by omega)]) (f := N) (s := s0) (by omega) ⟨fr_rfl, fun _ _ => rfl, fun c hc => by
        have := c4 c hc
        rw [show 729 * 8 + c = 5832 + c from by omega] at this
        rw [this]; rfl⟩
  refine ⟨s1, ?_, fr_trans c2 h1, fun c hc => (h2 c hc).trans (c3 c (by omega)), fun c hc => ?_⟩
  · unfold f_X12_multiply
    try dsimp only at e
    rw [show (8 : Int) = ((8 : Nat) : Int) from rfl] at *
    rw [c1, Option.bind_some, e]
    rfl
  · rw [h3 c hc]
    by_cases hdc : dg c ≤ 8
    · have := xa_lt hc hdc
      rw [show PR (mulP (P q) (P r)) c = mulP (P q) (P r) (xa c) from by unfold PR; rw [if_pos hdc]]
      unfold mulP
      rw [← mrp_mlp _ _ this, ax_xa hc hdc]
    · rw [show PR (mulP (P q) (P r)) c = 0 from by unfold PR; rw [if_neg hdc]]
      have : mrp (P q) (P r) c 729 = 0 := sm_z (fun a ha => sm_z (fun b hb => by
        by_cases ea : PR (P q) a = 0
        · rw [ea]; simp
        · by_cases eb : PR (P r) b = 0
          · rw [eb]; simp
          · have h4 := dgle ha ea
            have h5 := dgle hb eb
            obtain ⟨w1, w2⟩ := add_ax ha hb (PR_nz ea).1 (PR_nz eb).1 (by omega)
            rw [if_neg (fun z => by rw [z] at w2; omega)]))
      rw [this]; rfl
/-- what the reference's turns leaves -/
def RQ (σ : mS) (t : tn) (x : Nat) : Prop := σ 71 0 14 = (tq t x 0 : Int) ∧ σ 71 0 15 = (tq t x 1 : Int) ∧ σ 71 0 16 = (tq t x 2 : Int) ∧ σ 71 0 17 = tS t x
theorem turns_in {N : Nat} {K : mS → Option mS} {c : Int} (hc : cok c) {e : Nat} (he : e ≤ 8) {s : mS} (h17 : s 71 0 17 = 1 ∨ s 71 0 17 = -1) : ∃ s' : mS,
    (Option.bind (f_X12_size N c s) fun ⟨v1324, s1323⟩ =>
        if v1324 = (1 : Int) then
          if 0 ≤ c then
            K (mup s1323 71 0 14 (e : Int))
          else
            if (o_rem (e : Int) 2) = (1 : Int) then
              K (mup (mup s1323 71 0 14 (e : Int)) 71 0 17 (mw (-(s1323 71 0 17))))
            else
              K (mup s1323 71 0 14 (e : Int))
        else
          Option.bind (f_X12_size N c s1323) fun ⟨v1326, s1325⟩ =>
          if v1326 = (2 : Int) then
            if 0 ≤ c then
              K (mup s1325 71 0 15 (e : Int))
            else
              if (o_rem (e : Int) 2) = (1 : Int) then
                K (mup (mup s1325 71 0 15 (e : Int)) 71 0 17 (mw (-(s1325 71 0 17))))
              else
                K (mup s1325 71 0 15 (e : Int))
          else
            if 0 ≤ c then
              K (mup s1325 71 0 16 (e : Int))
            else
              if (o_rem (e : Int) 2) = (1 : Int) then
                K (mup (mup s1325 71 0 16 (e : Int)) 71 0 17 (mw (-(s1325 71 0 17))))
              else
                K (mup s1325 71 0 16 (e : Int))) = K s' ∧ s' 71 0 (14 + (c.natAbs - 1)) = (e : Int) ∧ s' 71 0 17 = s 71 0 17 * (if c < 0 ∧ e % 2 = 1 then -1 else 1) ∧ fq [] [17, 14 + (c.natAbs - 1)] s s' := by
  have hne : mw (-(s 71 0 17)) = -(s 71 0 17) := by rcases h17 with q | q <;> rw [q] <;> decide
  have hre : o_rem (e : Int) 2 = ((e % 2 : Nat) : Int) := by rw [o_rem_eq (by omega) (by omega) (by decide) (by decide)]; omega
  have A : ∀ k : Nat, 14 ≤ k → k ≤ 16 → (mup s 71 0 k (e : Int)) 71 0 k = (e : Int) ∧ (mup s 71 0 k (e : Int)) 71 0 17 = s 71 0 17 * 1 ∧ fq [] [17, k] s (mup s 71 0 k (e : Int)) := fun k h1 h2 => ⟨mup_s _ _ _ _ _, by rw [mup_k (by omega), Int.mul_one], fq_mupk fq_rfl (by simp)⟩
  have B : ∀ k : Nat, 14 ≤ k → k ≤ 16 → (mup (mup s 71 0 k (e : Int)) 71 0 17 (-(s 71 0 17))) 71 0 k = (e : Int) ∧ (mup (mup s 71 0 k (e : Int)) 71 0 17 (-(s 71 0 17))) 71 0 17 = s 71 0 17 * (-1) ∧ fq [] [17, k] s (mup (mup s 71 0 k (e : Int)) 71 0 17 (-(s 71 0 17))) := fun k h1 h2 => ⟨by rw [mup_k (by omega), mup_s], by rw [mup_s]; omega, fq_mupk (fq_mupk fq_rfl (by simp)) (by simp)⟩
  rw [X12_size_eq hc, Option.bind_some]
  try dsimp only
  rw [X12_size_eq hc, Option.bind_some]
  try dsimp only
  rw [hre, hne]
  by_cases hp : e % 2 = 1
  · rcases hc with rfl | rfl | rfl | rfl | rfl | rfl
    · exact ⟨_, rfl, A 14 (by decide) (by decide)⟩
    · exact ⟨_, rfl, A 15 (by decide) (by decide)⟩
    · exact ⟨_, rfl, A 16 (by decide) (by decide)⟩
    · rw [hp]; exact ⟨_, rfl, B 14 (by decide) (by decide)⟩
    · rw [hp]; exact ⟨_, rfl, B 15 (by decide) (by decide)⟩
    · rw [hp]; exact ⟨_, rfl, B 16 (by decide) (by decide)⟩
  · rw [show e % 2 = 0 from by omega]
    rcases hc with rfl | rfl | rfl | rfl | rfl | rfl
    · exact ⟨_, rfl, A 14 (by decide) (by decide)⟩
    · exact ⟨_, rfl, A 15 (by decide) (by decide)⟩
    · exact ⟨_, rfl, A 16 (by decide) (by decide)⟩
    · exact ⟨_, rfl, A 14 (by decide) (by decide)⟩
    · exact ⟨_, rfl, A 15 (by decide) (by decide)⟩
    · exact ⟨_, rfl, A 16 (by decide) (by decide)⟩
theorem X12_turns_eq {N g x n : Nat} {E : Nat → tn} {σ : mS} (hN : 100 ≤ N) (H : RG σ E n) (hg : g < n) (hx : x < 165) : ∃ σ', f_X12_turns N (g : Int) (pI x : Int) (pJ x : Int) (pK x : Int) σ = some σ' ∧ RQ σ' (E g) x ∧ fq [] [14, 15, 16, 17] σ σ' := by
  have h48 := RG_48 H
  have ht := H.2.2.2.2.1 g hg
  generalize hs0 : mup (mup (mup (mup σ 71 0 14 0) 71 0 15 0) 71 0 16 0) 71 0 17 1 = s0
  have f0 : fq [] [14, 15, 16, 17] σ s0 := by
    subst hs0
    exact fq_mupk (fq_mupk (fq_mupk (fq_mupk fq_rfl (by decide)) (by decide)) (by decide)) (by decide)
  have z0 : s0 71 0 17 = 1 := by subst hs0; exact mup_s _ _ _ _ _
  obtain ⟨s1, e, h1, h2, h3⟩ := lp_0 (L := fun f i s => L_X12_turns_23 N f (g : Int) (pI x : Int) (pJ x : Int) (pK x : Int) i s) (I := fun i s => fq [] [14, 15, 16, 17] σ s ∧ s 71 0 17 = tsP (E g) x i ∧ ∀ i', i' < i → s 71 0 (14 + lto (E g) i') = (pe x i' : Int))
    (P := fun s => fq [] [14, 15, 16, 17] σ s ∧ s 71 0 17 = tsP (E g) x 3 ∧ ∀ i', i' < 3 → s 71 0 (14 + lto (E g) i') = (pe x i' : Int)) 3 (fun f i s hi hI => by
      obtain ⟨h1, h2, h3⟩ := hI
      left
      have hc := tcd_ok ht i
      have hl := lto_lt ht i
      have hpe := pe_le hx i
      have hcd : s 74 0 (3 * g + i) = tcd (E g) i := by rw [h1.1 74 _ _ (by simp) (by decide)]; exact RG_cd H hg hi
      obtain ⟨s', a1, a2, a3, a4⟩ := turns_in (N := N) (K := fun s => L_X12_turns_23 N f (g : Int) (pI x : Int) (pJ x : Int) (pK x : Int) ((i + 1 : Nat) : Int) s) hc hpe (s := s) (by rw [h2]; exact tsP_pm _ _ _)
      have fin : fq [] [14, 15, 16, 17] σ s' ∧ s' 71 0 17 = tsP (E g) x (i + 1) ∧ ∀ i', i' < i + 1 → s' 71 0 (14 + lto (E g) i') = (pe x i' : Int) := by
        refine ⟨fq_trans h1 (fq_sub a4 (fun r hr => hr) (fun k hk => ?_)), ?_, fun i' hi' => ?_⟩
        · have hl' : (tcd (E g) i).natAbs - 1 < 3 := hl
          simp at hk ⊢
          omega
        · rw [a3, h2]; rfl
        · by_cases e : i' = i
          · subst e; exact a2
          · have hne := lto_ne ht (show i' < 3 by omega) hi e
            have hl2 := lto_lt ht i'
            rw [a4.2 _ (fun hk => by
              have hl' : (tcd (E g) i).natAbs - 1 = lto (E g) i := rfl
              rw [hl'] at hk
              simp at hk
              omega)]
            exact h3 i' (by omega)
      refine ⟨s', ?_, fin⟩
      rw [← a1]
      try dsimp only
      rw [L_X12_turns_23_s, if_neg (by omega), RG_ix h48 hg hi, tN, hcd, mw_s (by omega)]
      have : i = 0 ∨ i = 1 ∨ i = 2 := by omega
      rcases this with rfl | rfl | rfl
      · rw [if_pos (show ((0 : Nat) : Int) = 0 from rfl), if_pos (by omega)]; rfl
      · rw [if_neg (by decide), if_pos (show ((1 : Nat) : Int) = 1 from rfl), if_pos (by omega)]; rfl
      · rw [if_neg (by decide), if_neg (by decide), if_pos (by omega)]; rfl) (fun f s hI => by
      refine ⟨s, ?_, hI⟩
      try dsimp only
      rw [L_X12_turns_23_s, if_pos (by omega)]) (f := N) (s := s0) (by omega) ⟨f0, z0, fun i' h => absurd h (Nat.not_lt_zero _)⟩
  have hq : ∀ j, j < 3 → s1 71 0 (14 + j) = (tq (E g) x j : Int) := fun j hj => by
    obtain ⟨i, hi, ei⟩ := lto_all ht hj
    rw [← ei, h3 i hi, tq_lto ht x hi]
  refine ⟨s1, ?_, ⟨hq 0 (by decide), hq 1 (by decide), hq 2 (by decide), by rw [h2, tsP_3]⟩, h1⟩
  unfold f_X12_turns
  try dsimp only at e
  rw [hs0, e]
  rfl
