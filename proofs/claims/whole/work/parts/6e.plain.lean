/-! the reference's free PRODUCTS of a degree -/
def fP (σ σ' : mS) : Prop := fq [81, 85, 86, 87, 88, 89, 90, 91, 92] [14, 15, 16, 17, 26, 27] σ σ' ∧ ∀ c, c < 5832 → σ' 81 0 c = σ 81 0 c
theorem fP_rfl {σ : mS} : fP σ σ := ⟨fq_rfl, fun _ _ => rfl⟩
theorem fP_trans {a b c : mS} (h1 : fP a b) (h2 : fP b c) : fP a c := ⟨fq_trans h1.1 h2.1, fun k hk => (h2.2 k hk).trans (h1.2 k hk)⟩
theorem fP_fT {σ σ' : mS} (h : fT σ σ') : fP σ σ' := ⟨fq_sub (fq_of h.1 (by decide)) (fun r hr => by simp at hr ⊢; omega) (fun k hk => absurd hk (by simp)), h.2⟩
theorem fP_fr {σ σ' : mS} {R : List Nat} (h : fr R σ σ') (hR : ∀ r, r ∈ R → r ∈ [85, 86, 87, 88, 89, 90, 91, 92]) : fP σ σ' := by
  have h71 : 71 ∉ R := fun z => absurd (hR 71 z) (by decide)
  have h81 : 81 ∉ R := fun z => absurd (hR 81 z) (by decide)
  exact ⟨fq_sub (fq_of h h71) (fun r hr => by have := hR r hr; simp at this ⊢; omega) (fun k hk => absurd hk (by simp)), fun c _ => h 81 _ _ h81⟩
theorem fP_fq {σ σ' : mS} {R K : List Nat} (h : fq R K σ σ') (hR : ∀ r, r ∈ R → r ∈ [85, 86, 87, 88, 89, 90, 91, 92]) (hK : ∀ k, k ∈ K → k ∈ [14, 15, 16, 17, 26, 27]) : fP σ σ' := by
  have h81 : 81 ∉ R := fun z => absurd (hR 81 z) (by decide)
  exact ⟨fq_sub h (fun r hr => by have := hR r hr; simp at this ⊢; omega) hK, fun c _ => h.1 81 _ _ h81 (by decide)⟩
theorem X12_hand_eq {N : Nat} {σ : mS} (hN : 1000 ≤ N) : ∃ σ', f_X12_handOther N σ = some σ' ∧ fr [87] σ σ' ∧ ∀ a, a < 729 → σ' 87 0 a = σ 81 0 (6561 + a) := by
  obtain ⟨s1, e, h1, h2⟩ := lp_0 (L := fun g k s => L_X12_handOther_2 N g k s) (I := fun k s => fr [87] σ s ∧ ∀ a, a < k → s 87 0 a = σ 81 0 (6561 + a)) (P := fun s => fr [87] σ s ∧ ∀ a, a < 729 → s 87 0 a = σ 81 0 (6561 + a)) 729 (fun fu k s hk hI => by
      obtain ⟨h1, h2⟩ := hI
      left
      have x1 : mw ((6561 : Int) + (k : Int)) = ((6561 + k : Nat) : Int) := by rw [mw_id (by omega) (by omega)]; omega
      try dsimp only
      rw [L_X12_handOther_2_s, if_neg (by omega), x1, if_pos (by omega), tN, tN, h1 81 _ _ (by decide), mw_s (by omega)]
      refine ⟨_, rfl, fr_mup h1 (by decide), fun a ha => ?_⟩
      by_cases ea : a = k
      · subst ea; rw [mup_s]
      · rw [mup_k ea]; exact h2 a (by omega)) (fun fu s hI => by
      refine ⟨s, ?_, hI⟩
      try dsimp only
      rw [L_X12_handOther_2_s, if_pos (by omega)]) (f := N) (s := σ) (by omega) ⟨fr_rfl, fun a h => absurd h (Nat.not_lt_zero _)⟩
  refine ⟨s1, ?_, h1, h2⟩
  unfold f_X12_handOther
  try dsimp only at e
  rw [e]
  rfl
/-- the reference has the free ones of the first q PRODUCTS -/
def RPl (σ : mS) (E : Nat → tn) (n : Nat) (L : List (Nat × Nat)) (d q : Nat) : Prop := RE σ d (frs (pvv E n L d) (wd d) q).length (fun f => pvv E n L d ((frs (pvv E n L d) (wd d) q).getD f 0)) ∧ ∀ f, f < (frs (pvv E n L d) (wd d) q).length → σ 89 0 f = ((frs (pvv E n L d) (wd d) q).getD f 0 : Int)
theorem X12_plain_eq {N n d : Nat} {E : Nat → tn} {L : List (Nat × Nat)} {σ : mS} (hN : 1000 ≤ N) (hG : GP E n) (hL : LOK L) (hB : BD L) (hd : d ≤ 6) (hF : RFw σ E n L) : ∃ σ', f_X12_plainOf N (d : Int) σ = some σ' ∧ fP σ σ' ∧ ROf σ' L d ∧ RPl σ' E n L d (prL L d).length := by
  have g56 := gmo_le d (List.mem_range.mpr (by omega))
  have hlen := hB.2 d hd
  obtain ⟨s0, a1, a2, a3⟩ := X12_list_eq (N := N) hN hL hB hd hF.1
  generalize hs1 : mup s0 71 0 27 0 = s1
  have p1 : fP σ s1 := by
    subst hs1
    exact fP_trans (fP_fq a2 (by decide) (by decide)) (fP_fq (R := []) (K := [27]) (fq_mupk fq_rfl (by decide)) (by simp) (by decide))
  have o1 : ROf s1 L d := by subst hs1; exact ⟨by rw [mup_k (by decide)]; exact a3.1, fun q hq k hk => by rw [mup_r (by decide)]; exact a3.2 q hq k hk⟩
  have r1 : RPl s1 E n L d 0 := ⟨⟨by subst hs1; exact mup_s _ _ _ _ _, fun f hf => absurd hf (Nat.not_lt_zero _), fun _ => 0, fun f hf => absurd hf (Nat.not_lt_zero _), EL_nil _ _ _ _ _⟩, fun f hf => absurd hf (Nat.not_lt_zero _)⟩
  obtain ⟨s2, e, h1, h2, h3⟩ := lp_0 (L := fun g k s => L_X12_plainOf_12 N g k s) (I := fun q s => fP σ s ∧ ROf s L d ∧ RPl s E n L d q) (P := fun s => fP σ s ∧ ROf s L d ∧ RPl s E n L d (prL L d).length) (prL L d).length (fun fu q s hq hI => by
      obtain ⟨h1, h2, h3⟩ := hI
      left
      have hFs := RFw_fq hF h1.1 (by decide) (by decide) (by decide)
      obtain ⟨m1, m2⟩ := prL_mem hL hq
      have hhom := pvL_hom hG hL ((prL L d).getD q []) m2 (by omega)
      rw [m1] at hhom
      obtain ⟨sa, b1, b2, b3⟩ := X12_works_eq (N := N) hN hG hL hB hd hFs h2 hq
      obtain ⟨sb, c1, c2, c3⟩ := X12_hand_eq (N := N) (σ := sa) hN
      have hmade : ∀ a, a < 729 → sb 87 0 a = pvL E n L ((prL L d).getD q []) a % 32003 := fun a ha => by rw [c3 a ha]; exact b3 a ha
      have hRE : RE sb d (frs (pvv E n L d) (wd d) q).length (fun f => pvv E n L d ((frs (pvv E n L d) (wd d) q).getD f 0)) := RE_fq (RE_fq h3.1 (fq_of b2.1 (by decide)) (by decide) (by simp)) (fq_of c2 (by decide)) (by decide) (by simp)
      obtain ⟨sc, pv, a, b, d1, d2, d3, d4, d5, d6⟩ := X12_lessens_eq (N := N) hN hd hRE (fun x hx => by
        rw [hmade x hx]
        exact ⟨md_lt _, fun hne => by rw [hhom x hne]; rfl⟩)
      have hvv : ∀ k, k < wd d → sb 87 0 (ly d k) = pvv E n L d q k % 32003 := fun k hk => by rw [hmade _ (ly_lt (by omega) hk)]; rfl
      have hiff : inS (fun f => pvv E n L d ((frs (pvv E n L d) (wd d) q).getD f 0)) (frs (pvv E n L d) (wd d) q).length (wd d) (fun k => sb 87 0 (ly d k)) ↔ inS (fun f => pvv E n L d ((frs (pvv E n L d) (wd d) q).getD f 0)) (frs (pvv E n L d) (wd d) q).length (wd d) (pvv E n L d q) := ⟨inS_cg (fun f _ k _ => em_r _) (fun k hk => by rw [hvv k hk]; exact em_md _), inS_cg (fun f _ k _ => em_r _) (fun k hk => by rw [hvv k hk]; exact em_sy (em_md _))⟩
      have pc : fP σ sc := fP_trans h1 (fP_trans (fP_fT b2) (fP_trans (fP_fr c2 (by decide)) (fP_fr d2.1 (by decide))))
      have oc : ROf sc L d := ⟨by rw [d2.1 71 _ _ (by decide), c2 71 _ _ (by decide), b2.1 71 _ _ (by decide)]; exact h2.1, fun q' hq' k hk => by rw [d2.1 85 _ _ (by decide), c2 85 _ _ (by decide), b2.1 85 _ _ (by decide)]; exact h2.2 q' hq' k hk⟩
      have e89 : ∀ f, sc 89 0 f = s 89 0 f := fun f => by rw [d2.1 89 _ _ (by decide), c2 89 _ _ (by decide), b2.1 89 _ _ (by decide)]
      try dsimp only
      rw [L_X12_plainOf_12_s, h2.1, if_neg (by omega), b1, Option.bind_some, c1, Option.bind_some, d1, Option.bind_some, mw_s (by omega)]
      try dsimp only
      cases b with
      | true =>
        rw [if_neg (by decide)]
        have hin := hiff.mp (d6.mp rfl)
        refine ⟨sc, rfl, pc, oc, ?_⟩
        unfold RPl
        rw [frs_in hin]
        exact ⟨RE_fq hRE (fq_of d2.1 (by decide)) (by decide) (by simp), fun f hf => by rw [e89]; exact h3.2 f hf⟩
      | false =>
        rw [if_pos bi_f]
        have hnin : ¬ inS (fun f => pvv E n L d ((frs (pvv E n L d) (wd d) q).getD f 0)) (frs (pvv E n L d) (wd d) q).length (wd d) (pvv E n L d q) := fun z => absurd (d6.mpr (hiff.mpr z)) (by decide)
        have hnz : ∃ k, k < wd d ∧ sc 87 0 (ly d k) ≠ 0 := by
          refine Classical.byContradiction (fun hno => ?_)
          have : ∀ k, k < wd d → sc 87 0 (ly d k) = 0 := fun k hk => Classical.byContradiction (fun z => hno ⟨k, hk, z⟩)
          exact absurd (d5.mpr this) (by decide)
        obtain ⟨sd, k1, k2, k3, k4, k5⟩ := X12_keeps_eq (N := N) (q := q) hN hd hRE d2 d3 d4 hnz
        rw [k1, Option.bind_some]
        refine ⟨sd, rfl, fP_trans pc (fP_fq k3 (by decide) (by decide)), ⟨by rw [k3.2 26 (by decide)]; exact oc.1, fun q' hq' k hk => by rw [k3.1 85 _ _ (by decide) (by decide)]; exact oc.2 q' hq' k hk⟩, ?_⟩
        unfold RPl
        rw [frs_out hnin, show (frs (pvv E n L d) (wd d) q ++ [q]).length = (frs (pvv E n L d) (wd d) q).length + 1 from by simp]
        refine ⟨RE_V k2 (fun f hf k hk => ?_), fun f hf => ?_⟩
        · try dsimp only
          by_cases ef : f = (frs (pvv E n L d) (wd d) q).length
          · subst ef
            rw [if_pos rfl, getD_la]
            show em (sb 87 0 (ly d k)) _
            rw [hvv k hk]
            exact em_md _
          · rw [if_neg ef, getD_ap (show f < (frs (pvv E n L d) (wd d) q).length by omega)]
            exact em_r _
        · by_cases ef : f < (frs (pvv E n L d) (wd d) q).length
          · rw [getD_ap ef, k5 f (by omega), e89]; exact h3.2 f ef
          · have : f = (frs (pvv E n L d) (wd d) q).length := by omega
            subst this
            rw [getD_la, k4]) (fun fu s hI => by
      refine ⟨s, ?_, hI⟩
      try dsimp only
      rw [L_X12_plainOf_12_s, hI.2.1.1, if_pos (by omega)]) (f := N) (s := s1) (by omega) ⟨p1, o1, r1⟩
  refine ⟨s2, ?_, h1, h2, h3⟩
  unfold f_X12_plainOf
  try dsimp only at e
  rw [a1, Option.bind_some, hs1, e]
  rfl
/-- only row 9 -/
def fM (σ σ' : mS) : Prop := fq [81] [14, 15, 16, 17] σ σ' ∧ ∀ c, c < 5832 → σ' 81 0 c = σ 81 0 c
theorem fM_trans {a b c : mS} (h1 : fM a b) (h2 : fM b c) : fM a c := ⟨fq_trans h1.1 h2.1, fun k hk => (h2.2 k hk).trans (h1.2 k hk)⟩
theorem fP_fM {σ σ' : mS} (h : fM σ σ') : fP σ σ' := ⟨fq_sub h.1 (fun r hr => by simp at hr ⊢; omega) (fun k hk => by simp at hk ⊢; omega), h.2⟩
/-- the reference's mean of one POWERS -/
theorem X12_meanOf_eq {N n x : Nat} {E : Nat → tn} {σ : mS} (hN : 1000 ≤ N) (H : RG σ E n) (hx : x < 165) : ∃ σ', f_X12_meanOf N (pI x : Int) (pJ x : Int) (pK x : Int) σ = some σ' ∧ fM σ σ' ∧ ∀ a, a < 729 → σ' 81 0 (6561 + a) = PR (meanM E n x) a := by
  have h48 := RG_48 H
  have hG := H.2.2
  have hiv := iv_lt n
  obtain ⟨s0, c1, c2, c3, c4⟩ := X12_clear_eq (N := N) (p := 9) (σ := σ) hN (by decide)
  have p0 : fM σ s0 := ⟨fq_sub (fq_of c2 (by decide)) (fun r hr => by simp at hr ⊢; omega) (fun k hk => absurd hk (by simp)), fun c hc => c3 c (by omega)⟩
  obtain ⟨s1, e, h1, h2⟩ := lp_0 (L := fun g k s => L_X12_meanOf_18 N g (pI x : Int) (pJ x : Int) (pK x : Int) (iv n : Int) k s) (I := fun g s => fM σ s ∧ ∀ a, a < 729 → s 81 0 (6561 + a) = sm (fun g => if ax (tX (E g) x) = a then tS (E g) x * (iv n : Int) else 0) g % 32003) (P := fun s => fM σ s ∧ ∀ a, a < 729 → s 81 0 (6561 + a) = sm (fun g => if ax (tX (E g) x) = a then tS (E g) x * (iv n : Int) else 0) n % 32003) n (fun fu g s hg hI => by
      obtain ⟨h1, h2⟩ := hI
      left
      have Hs := RG_fq H h1.1 (by decide) (by decide)
      have ht := hG.2.2.1 g hg
      have hX := tX_lt ht hx
      have hxl := ax_lt hX
      have hSp := tS_pm (E g) x
      obtain ⟨s2, t1, t2, t3⟩ := X12_turns_eq (N := N) (g := g) (x := x) (by omega) Hs hg hx
      have hax : 81 * tq (E g) x 0 + 9 * tq (E g) x 1 + tq (E g) x 2 = ax (tX (E g) x) := (ax_ixn (tq_sum ht hx)).symm
      have hcell : s2 81 0 (6561 + ax (tX (E g) x)) = sm (fun g' => if ax (tX (E g') x) = ax (tX (E g) x) then tS (E g') x * (iv n : Int) else 0) g % 32003 := by rw [t3.1 81 _ _ (by simp) (by decide)]; exact h2 _ hxl
      have hm := md_lt (sm (fun g' => if ax (tX (E g') x) = ax (tX (E g) x) then tS (E g') x * (iv n : Int) else 0) g)
      have hv : -32003 < tS (E g) x * (iv n : Int) ∧ tS (E g) x * (iv n : Int) < 32003 := by rcases hSp with z | z <;> rw [z] <;> omega
      have x1 : mw ((6561 : Int) + ((ax (tX (E g) x) : Nat) : Int)) = ((6561 + ax (tX (E g) x) : Nat) : Int) := by rw [mw_id (by omega) (by omega)]; omega
      try dsimp only
      rw [L_X12_meanOf_18_s, Hs.1, if_neg (by omega), t1, Option.bind_some, t2.1, t2.2.1, t2.2.2.1, at_eq (tq_sum ht hx), Option.bind_some, hax]
      try dsimp only
      rw [x1, if_pos (by omega), tN, t2.2.2.2, hcell, mx_small (z := tS (E g) x * (iv n : Int)) (by omega) (by omega), mx_small (by omega) (by omega), X12_left_eq (mx_small (by omega) (by omega)), Option.bind_some]
      try dsimp only
      rw [if_pos (by omega), mw_s (by omega)]
      refine ⟨_, rfl, fM_trans h1 (fM_trans ⟨fq_sub t3 (fun r hr => absurd hr (by simp)) (fun k hk => hk), fun c hc => t3.1 81 _ _ (by simp) (by decide)⟩ ⟨fq_mup fq_rfl (by decide) (by decide), fun c hc => mup_k (by omega)⟩), fun a ha => ?_⟩
      rw [sm_s]
      by_cases ea : a = ax (tX (E g) x)
      · subst ea
        rw [mup_s, if_pos rfl, Int.emod_add_emod]
      · rw [mup_k (by omega), if_neg (fun z => ea z.symm), Int.add_zero, t3.1 81 _ _ (by simp) (by decide)]
        exact h2 a ha) (fun fu s hI => by
      have Hs := RG_fq H hI.1.1 (by decide) (by decide)
      refine ⟨s, ?_, hI⟩
      try dsimp only
      rw [L_X12_meanOf_18_s, Hs.1, if_pos (by omega)]) (f := N) (s := s0) (by omega) ⟨p0, fun a ha => by
        have := c4 a ha
        rw [show 729 * 9 + a = 6561 + a from by omega] at this
        rw [this]; rfl⟩
  refine ⟨s1, ?_, h1, fun a ha => ?_⟩
  · unfold f_X12_meanOf
    try dsimp only at e
    rw [show f_X12_clear N 9 σ = some s0 from c1, Option.bind_some, c2 71 _ _ (by decide), H.1, X12_by_eq (by omega) (by omega), Option.bind_some]
    try dsimp only
    rw [e]
    rfl
  · rw [h2 a ha]
    unfold PR
    by_cases hda : dg a ≤ 8
    · rw [if_pos hda]
      unfold meanM
      rw [← sm_mulr, sm_cg (F := fun g => if ax (tX (E g) x) = a then tS (E g) x * (iv n : Int) else 0) (G := fun g => (if tX (E g) x = xa a then tS (E g) x else 0) * (iv n : Int)) n (fun g hg => by
        have hX := tX_lt (hG.2.2.1 g hg) hx
        by_cases q : tX (E g) x = xa a
        · rw [if_pos (by rw [q, ax_xa ha hda]), if_pos q]
        · rw [if_neg (fun z => q (by rw [← z, xa_ax hX])), if_neg q, Int.zero_mul])]
    · rw [if_neg hda, sm_z (F := fun g => if ax (tX (E g) x) = a then tS (E g) x * (iv n : Int) else 0) (fun g hg => if_neg (fun z => hda (by
        have hX := tX_lt (hG.2.2.1 g hg) hx
        rw [← z, dg_ax hX]
        exact pD_le hX)))]
      rfl
