/-! made: the parts, pure; the class splits -/
/-- the multiples that make w of V -/
noncomputable def cof (V : Nat → Nat → Int) (m W : Nat) (w : Nat → Int) (f : Nat) : Int := @dite _ (inS V m W w) (Classical.propDecidable _) (fun h => Classical.choose h f % 32003) (fun _ => 0)
theorem cof_eq {V : Nat → Nat → Int} {m W : Nat} {w c : Nat → Int} (hI : Ind V m W) (hc : ∀ k, k < W → em (w k) (sm (fun f => c f * V f k) m)) : ∀ f, f < m → cof V m W w f = c f % 32003 := by
  intro f hf
  have hin : inS V m W w := ⟨c, hc⟩
  unfold cof
  rw [dif_pos hin]
  exact EL_co hI (Classical.choose_spec hin) hc f hf
theorem cof_rg (V : Nat → Nat → Int) (m W : Nat) (w : Nat → Int) (f : Nat) : 0 ≤ cof V m W w f ∧ cof V m W w f < 32003 := by
  unfold cof
  by_cases h : inS V m W w
  · rw [dif_pos h]; omega
  · rw [dif_neg h]; omega
theorem cof_w {V : Nat → Nat → Int} {m W : Nat} {w w' : Nat → Int} (hI : Ind V m W) (hw : ∀ k, k < W → w k = w' k) (hin : inS V m W w) : ∀ f, f < m → cof V m W w f = cof V m W w' f := by
  intro f hf
  obtain ⟨c, hc⟩ := hin
  rw [cof_eq hI hc f hf, cof_eq hI (fun k hk => by rw [← hw k hk]; exact hc k hk) f hf]
/-- a reduction that comes to 0 gives the multiples -/
theorem Rd_co {V : Nat → Nat → Int} {m W : Nat} {r x : Nat → Nat → Int} {pv : Nat → Nat} {w w' a : Nat → Int} (h : EL V m W r x pv) (hR : Rd r pv m W w w' a) (hz : ∀ k, k < W → em (w' k) 0) : ∀ k, k < W → em (w k) (sm (fun g => sm (fun f => a f * x f g) m * V g k) m) := by
  intro k hk
  have h1 := hR.1 k hk
  have h2 : em (w k) (sm (fun f => a f * r f k) m) := by
    have := em_add (em_t (em_sy h1) (hz k hk)) (em_r (sm (fun f => a f * r f k) m))
    rw [Int.sub_add_cancel, Int.zero_add] at this
    exact this
  refine em_t h2 ?_
  refine em_t (em_sm m (fun f hf => em_mul (em_r (a f)) (h.1 f hf k hk))) ?_
  have e : sm (fun f => a f * sm (fun g => x f g * V g k) m) m = sm (fun g => sm (fun f => a f * x f g) m * V g k) m := by
    have e1 : sm (fun f => a f * sm (fun g => x f g * V g k) m) m = sm (fun f => sm (fun g => a f * x f g * V g k) m) m := sm_cg m (fun f _ => by
      rw [← sm_mul]
      exact sm_cg m (fun g _ => by rw [Int.mul_assoc]))
    rw [e1, sm_swap]
    exact sm_cg m (fun g _ => by rw [← sm_mulr])
  rw [e]
  exact em_r _
/-- the parts of degree d among the first g -/
def ptd (c : Nat → Int) (d : Nat) (P : Nat → List Nat) : Nat → List (Nat × Int × List Nat)
  | 0 => []
  | g + 1 => ptd c d P g ++ (if c g = 0 then [] else [((c g).toNat, (d : Int), P g)])
theorem ptd_s (c : Nat → Int) (d : Nat) (P : Nat → List Nat) (g : Nat) : ptd c d P (g + 1) = ptd c d P g ++ (if c g = 0 then [] else [((c g).toNat, (d : Int), P g)]) := rfl
theorem ptd_len (c : Nat → Int) (d : Nat) (P : Nat → List Nat) : ∀ g, (ptd c d P g).length ≤ g
  | 0 => Nat.le_refl _
  | g + 1 => by
    have := ptd_len c d P g
    unfold ptd
    rw [List.length_append]
    split
    · simp; omega
    · simp; omega
theorem ptd_cg {c c' : Nat → Int} {d : Nat} {P : Nat → List Nat} : ∀ g, (∀ f, f < g → c f = c' f) → ptd c d P g = ptd c' d P g
  | 0, _ => rfl
  | g + 1, h => by
    unfold ptd
    rw [ptd_cg g (fun f hf => h f (by omega)), h g (by omega)]
noncomputable def ptdF (E : Nat → tn) (n : Nat) (L : List (Nat × Nat)) (Q : Nat → Int) (d : Nat) : List (Nat × Int × List Nat) := ptd (cof (FV E n L d) (frl E n L d).length (wd d) (fun k => Q (fst9 d + k))) d (fun f => (prL L d).getD ((frl E n L d).getD f 0) []) (frl E n L d).length
/-- the parts of the degrees below d -/
noncomputable def ptA7 (E : Nat → tn) (n : Nat) (L : List (Nat × Nat)) (Q : Nat → Int) : Nat → List (Nat × Int × List Nat)
  | 0 => []
  | d + 1 => ptA7 E n L Q d ++ ptdF E n L Q d
theorem pgt_ap {pts : List (Nat × Int × List Nat)} {x : Nat × Int × List Nat} {k : Nat} (h : k < pts.length) : pgt (pts ++ [x]) k = pgt pts k := by unfold pgt; exact getD_ap h
theorem pgt_la {pts : List (Nat × Int × List Nat)} {x : Nat × Int × List Nat} : pgt (pts ++ [x]) pts.length = x := by unfold pgt; exact getD_la
theorem mcp_s {σ : mS} {r0 i0 r1 i1 v n k : Nat} : mcp σ r0 i0 (v : Int) r1 i1 0 (n : Int) r1 i1 k = if k < n then σ r0 i0 (v + k) else σ r1 i1 k := by
  unfold mcp
  rw [if_pos ⟨rfl, rfl⟩]
  by_cases q : k < n
  · rw [if_pos q, pk_cpy_in (f := σ r0 i0) (g := σ r1 i1) (sp := (v : Int).toNat) (dp := (0 : Int).toNat) (n := (n : Int).toNat) (j := k) (Nat.zero_le _) (by rw [tN]; show k < 0 + n; omega)]
    refine congrArg (σ r0 i0) ?_
    show (v : Int).toNat + (k - 0) = v + k
    rw [tN]; omega
  · rw [if_neg q]
    exact pk_cpy_out (by rw [tN]; show k < 0 ∨ 0 + n ≤ k; omega)
theorem CPt_fr {σ σ' : mS} {pts : List (Nat × Int × List Nat)} {fw : Nat} {R : List Nat} (h : CPt σ pts fw) (hf : fr R σ σ') (hd : ∀ r, r ∈ [61, 62, 63, 65] → r ∉ R) : CPt σ' pts fw := by
  obtain ⟨a, b, c, d, e⟩ := h
  refine ⟨by rw [hf 61 _ _ (hd 61 (by decide))]; exact a, by rw [hf 61 _ _ (hd 61 (by decide))]; exact b, c, d, fun k hk => ?_⟩
  rw [hf 62 _ _ (hd 62 (by decide)), hf 63 _ _ (hd 63 (by decide))]
  obtain ⟨e1, e2, e3⟩ := e k hk
  exact ⟨e1, e2, fun j hj => by rw [hf 65 _ _ (hd 65 (by decide))]; exact e3 j hj⟩
theorem X5_add_eq {N q3 fw m d : Nat} {pts : List (Nat × Int × List Nat)} {l : List Nat} {σ : mS} (h : CPt σ pts fw) (hl : pts.length < 84) (h49 : ∀ i, i < 6 → σ 49 q3 i = (l.count i : Int)) : ∃ σ', f_X5_add_r49 N (m : Int) (d : Int) q3 σ = some σ' ∧ fr [61, 62, 63, 65] σ σ' ∧ CPt σ' (pts ++ [(m, (d : Int), l)]) fw := by
  obtain ⟨a, b, c, e, f⟩ := h
  refine ⟨mup (mcp (mup (mup σ 62 0 pts.length (m : Int)) 63 0 pts.length (d : Int)) 49 q3 0 65 pts.length 0 6) 61 0 0 ((pts.length + 1 : Nat) : Int), ?_, fr_mup (fr_mcp (fr_mup (fr_mup fr_rfl (by decide)) (by decide)) (by decide)) (by decide), ?_, ?_, ?_, e, fun k hk => ?_⟩
  · unfold f_X5_add_r49
    rw [a, if_neg (by omega), if_pos (by omega), tN, mw_s (by omega)]
  · rw [mup_s, List.length_append]; rfl
  · rw [mup_k (by decide), mcp_r (Or.inl (by decide)), mup_r (by decide), mup_r (by decide)]; exact b
  · rw [List.length_append]; show pts.length + 1 ≤ 84; omega
  · rw [List.length_append] at hk
    replace hk : k < pts.length + 1 := hk
    have v62 : (mup (mcp (mup (mup σ 62 0 pts.length (m : Int)) 63 0 pts.length (d : Int)) 49 q3 0 65 pts.length 0 6) 61 0 0 ((pts.length + 1 : Nat) : Int)) 62 0 k = (mup σ 62 0 pts.length (m : Int)) 62 0 k := by rw [mup_r (by decide), mcp_r (Or.inl (by decide)), mup_r (by decide)]
    have v63 : (mup (mcp (mup (mup σ 62 0 pts.length (m : Int)) 63 0 pts.length (d : Int)) 49 q3 0 65 pts.length 0 6) 61 0 0 ((pts.length + 1 : Nat) : Int)) 63 0 k = (mup (mup σ 62 0 pts.length (m : Int)) 63 0 pts.length (d : Int)) 63 0 k := by rw [mup_r (by decide), mcp_r (Or.inl (by decide))]
    rw [v62, v63]
    by_cases q : k = pts.length
    · subst q
      rw [pgt_la, mup_s, mup_s]
      refine ⟨rfl, rfl, fun j hj => ?_⟩
      rw [mup_r (by decide), show (6 : Int) = ((6 : Nat) : Int) from rfl, mcp_in hj, mup_r (by decide), mup_r (by decide)]
      exact h49 j hj
    · obtain ⟨f1, f2, f3⟩ := f k (by omega)
      rw [pgt_ap (by omega), mup_k q, mup_k q, mup_r (by decide)]
      refine ⟨f1, f2, fun j hj => ?_⟩
      rw [mup_r (by decide), mcp_r (Or.inr q), mup_r (by decide), mup_r (by decide)]
      exact f3 j hj
theorem X3_split_eq {N n d q1 fw : Nat} {E : Nat → tn} {L : List (Nat × Nat)} {pts : List (Nat × Int × List Nat)} {σ : mS} (hN : 1000 ≤ N) (hd : d ≤ 6) (hC : CLy σ) (hB : BD L) (hq : LPq σ E n L d (prL L d).length) (hnm : nm (σ 33 q1)) (hin : inS (FV E n L d) (frl E n L d).length (wd d) (fun k => σ 33 q1 (fst9 d + k))) (hP : CPt σ pts fw) (hl : pts.length ≤ fst9 d) :
    ∃ σ', f_X3_split_r33 N d q1 σ = some σ' ∧ fr [59, 60, 61, 62, 63, 65] σ σ' ∧ CPt σ' (pts ++ ptdF E n L (σ 33 q1) d) fw ∧ (pts ++ ptdF E n L (σ 33 q1) d).length ≤ fst9 (d + 1) := by
  obtain ⟨w1, w2, w3, -⟩ := wd_fst d (List.mem_range.mpr (by omega))
  have h28 := wd_6 d (List.mem_range.mpr (by omega))
  obtain ⟨c1, c2, -⟩ := hC d hd
  obtain ⟨-, -, a3, a4, a5⟩ := hq
  change ∀ f, f < (frl E n L d).length → σ 53 d f = ((frl E n L d).getD f 0 : Int) at a4
  change LE σ d (frl E n L d).length (FV E n L d) at a5
  have hmW := EL_le a5.2.2
  have g1 := hB.2 d hd
  have g2 := gmo_le d (List.mem_range.mpr (by omega))
  have hfl : ∀ f, f < (frl E n L d).length → (frl E n L d).getD f 0 < (prL L d).length := frs_lt _ _ _
  have hs0r : ∀ r i k, r ≠ 59 → r ≠ 60 → msv (mcp σ 33 q1 ((fst9 d : Nat) : Int) 59 d 0 ((wd d : Nat) : Int)) 60 d (wd d) 0 r i k = σ r i k := fun r i k h59 h60 => by
    unfold msv
    rw [if_neg (fun z => h60 z.1), mcp_r (Or.inl h59)]
  generalize hs0 : msv (mcp σ 33 q1 ((fst9 d : Nat) : Int) 59 d 0 ((wd d : Nat) : Int)) 60 d (wd d) 0 = s0 at hs0r
  have v59 : ∀ k, k < wd d → s0 59 d k = σ 33 q1 (fst9 d + k) := fun k hk => by
    subst hs0
    unfold msv
    rw [if_neg (fun z => absurd z.1 (by decide)), mcp_s, if_pos hk]
  have v60 : ∀ k, k < wd d → s0 60 d k = 0 := fun k hk => by
    subst hs0
    unfold msv
    rw [if_pos ⟨rfl, rfl, hk⟩]
  have f0 : fr [59, 60] σ s0 := fun r i k h => hs0r r i k (fun z => h (by subst z; decide)) (fun z => h (by subst z; decide))
  have C0 : CLy s0 := fun a ha => by rw [f0 47 _ _ (by decide), f0 47 _ _ (by decide), f0 47 _ _ (by decide)]; exact hC a ha
  have L0 : LE s0 d (frl E n L d).length (FV E n L d) := LE_fr a5 (f0 47 _ _ (by decide)) (fun f k _ => ⟨f0 55 _ _ (by decide), f0 57 _ _ (by decide)⟩) (fun f _ => f0 58 _ _ (by decide))
  obtain ⟨s1, a, r1, r2, r3, r4, r5, r6, -⟩ := X3_reduce_eq (N := N) hN hd C0 L0 (fun k hk => by rw [v59 k hk]; exact hnm _ (by omega)) v60
  have hz : ∀ k, k < wd d → em (s1 59 d k) 0 := (EL_dec L0.2.2 r5).mp (inS_cg (fun f _ k _ => em_r _) (fun k hk => by rw [v59 k hk]; exact em_r _) hin)
  have hco := Rd_co L0.2.2 r5 hz
  have hcf : ∀ f, f < (frl E n L d).length → cof (FV E n L d) (frl E n L d).length (wd d) (fun k => σ 33 q1 (fst9 d + k)) f = (32003 - s1 60 d f) % 32003 := fun f hf => by
    rw [cof_eq (V := FV E n L d) (w := fun k => σ 33 q1 (fst9 d + k)) L0.2.2.2.2.2.2 (fun k hk => by
      have := hco k hk
      rw [v59 k hk] at this
      exact this) f hf]
    have e1 := r6 f hf
    have e2 := em_sub (em_r 0) e1
    rw [Int.zero_sub, Int.zero_sub, Int.neg_neg] at e2
    unfold em at e2
    rw [← e2]
    omega
  have f1 : fr [59, 60] σ s1 := fr_trans f0 r2
  have P1 := CPt_fr hP f1 (by decide)
  obtain ⟨s2, e, h1, h2⟩ := lp_0 (L := fun g k s => L_X3_split_r33_34 N g d k s) (I := fun g s => fr [61, 62, 63, 65] s1 s ∧ CPt s (pts ++ ptd (cof (FV E n L d) (frl E n L d).length (wd d) (fun k => σ 33 q1 (fst9 d + k))) d (fun f => (prL L d).getD ((frl E n L d).getD f 0) []) g) fw) (P := fun s => fr [61, 62, 63, 65] s1 s ∧ CPt s (pts ++ ptdF E n L (σ 33 q1) d) fw) (frl E n L d).length (fun fu g s hg hI => by
      obtain ⟨h1, h2⟩ := hI
      left
      have hlen := ptd_len (cof (FV E n L d) (frl E n L d).length (wd d) (fun k => σ 33 q1 (fst9 d + k))) d (fun f => (prL L d).getD ((frl E n L d).getD f 0) []) g
      have h60 := r4 g (by omega)
      have hc := hcf g hg
      have hg2 := hfl g hg
      have e47 : ∀ k, s 47 d k = σ 47 d k := fun k => by rw [h1 47 _ _ (by decide), f1 47 _ _ (by decide)]
      have e60 : s 60 d g = s1 60 d g := h1 60 _ _ (by decide)
      have e53 : s 53 d g = ((frl E n L d).getD g 0 : Int) := by rw [h1 53 _ _ (by decide), f1 53 _ _ (by decide)]; exact a4 g hg
      try dsimp only
      rw [L_X3_split_r33_34_s, e47, a5.1, if_neg (by omega), gwd_wd, if_pos (by omega), tN, e60, mw_s (by omega)]
      by_cases q : s1 60 d g = 0
      · rw [if_pos q]
        refine ⟨s, rfl, h1, ?_⟩
        unfold ptd
        rw [hc, q, if_pos (by decide), List.append_nil]
        exact h2
      · rw [if_neg q, e53, if_pos (by omega), tN, show mw ((32003 : Int) - s1 60 d g) = (((32003 - s1 60 d g).toNat : Nat) : Int) from by rw [mw_id (by omega) (by omega)]; omega, e47, c1]
        obtain ⟨s3, t1, t2, t3⟩ := X5_add_eq (N := N) (q3 := 64 * d + (frl E n L d).getD g 0) (m := (32003 - s1 60 d g).toNat) (d := d) (l := (prL L d).getD ((frl E n L d).getD g 0) []) h2 (by rw [List.length_append]; omega) (fun i hi => by
          rw [h1 49 _ _ (by decide), f1 49 _ _ (by decide)]
          exact (a3 _ hg2).2.1 i hi)
        rw [t1, Option.bind_some]
        refine ⟨s3, rfl, fr_trans h1 t2, ?_⟩
        unfold ptd
        rw [hc, if_neg (by omega), ← List.append_assoc, show ((32003 - s1 60 d g) % 32003) = 32003 - s1 60 d g from by omega]
        exact t3) (fun fu s hI => by
      refine ⟨s, ?_, hI⟩
      try dsimp only
      rw [L_X3_split_r33_34_s, hI.1 47 _ _ (by decide), f1 47 _ _ (by decide), a5.1, if_pos (by omega)]) (f := N) (s := s1) (by omega) ⟨fr_rfl, by unfold ptd; rw [List.append_nil]; exact P1⟩
  refine ⟨s2, ?_, fr_trans (fr_sub f1 (fun r hr => by simp at hr ⊢; omega)) (fr_sub h1 (fun r hr => by simp at hr ⊢; omega)), h2, ?_⟩
  · unfold f_X3_split_r33
    rw [c1, X7_firstOf_eq (by omega), Option.bind_some]
    try dsimp only
    rw [c2, gwd_wd, show d * (d + 1) * (d + 2) / 6 = fst9 d from rfl, if_pos (by omega), fill_r60 hN hd, Option.bind_some, hs0, r1, Option.bind_some]
    try dsimp only at e
    rw [show (0 : Int) = ((0 : Nat) : Int) from rfl] at e ⊢
    rw [e]
    rfl
  · have hlen := ptd_len (cof (FV E n L d) (frl E n L d).length (wd d) (fun k => σ 33 q1 (fst9 d + k))) d (fun f => (prL L d).getD ((frl E n L d).getD f 0) []) (frl E n L d).length
    rw [List.length_append]
    unfold ptdF
    omega
theorem X0_split_eq {N n q1 : Nat} {E : Nat → tn} {L : List (Nat × Nat)} {σ : mS} (hN : 1000 ≤ N) (hC : CLy σ) (hB : BD L) (hF : FW σ L) (hq : ∀ d, d ≤ 6 → LPq σ E n L d (prL L d).length) (hnm : nm (σ 33 q1)) (hin : ∀ d, d ≤ 6 → inS (FV E n L d) (frl E n L d).length (wd d) (fun k => σ 33 q1 (fst9 d + k))) :
    ∃ σ', f_X0_split_r33 N q1 σ = some σ' ∧ fr [59, 60, 61, 62, 63, 65] σ σ' ∧ CPt σ' (ptA7 E n L (σ 33 q1) 7) L.length := by
  generalize hs0 : mup (mup σ 61 0 0 0) 61 0 1 (σ 42 0 0) = s0
  have f0 : fr [61] σ s0 := by subst hs0; exact fr_mup (fr_mup fr_rfl (by decide)) (by decide)
  have P0 : CPt s0 [] L.length := ⟨by subst hs0; rw [mup_k (by decide)]; exact mup_s _ _ _ _ _, by subst hs0; rw [mup_s]; exact hF.1, by decide, hB.1, fun k hk => absurd hk (Nat.not_lt_zero _)⟩
  obtain ⟨s1, e, h1, h2⟩ := lp_0 (L := fun g k s => L_X0_split_r33_10 N g q1 k s) (I := fun d s => fr [59, 60, 61, 62, 63, 65] s0 s ∧ CPt s (ptA7 E n L (σ 33 q1) d) L.length ∧ (ptA7 E n L (σ 33 q1) d).length ≤ fst9 d) (P := fun s => fr [59, 60, 61, 62, 63, 65] s0 s ∧ CPt s (ptA7 E n L (σ 33 q1) 7) L.length) 7 (fun fu d s hd hI => by
      obtain ⟨h1, h2, h3⟩ := hI
      left
      have f1 : fr [59, 60, 61, 62, 63, 65] σ s := fr_trans (fr_sub f0 (fun r hr => by simp at hr ⊢; omega)) h1
      have e33 : s 33 q1 = σ 33 q1 := funext fun k => f1 33 _ _ (by decide)
      have g1 := hB.2 d (by omega)
      have g2 := gmo_le d (List.mem_range.mpr (by omega))
      obtain ⟨s3, t1, t2, t3, t4⟩ := X3_split_eq (N := N) (n := n) (d := d) (q1 := q1) (E := E) (L := L) (σ := s) hN (by omega) (fun a ha => by rw [f1 47 _ _ (by decide), f1 47 _ _ (by decide), f1 47 _ _ (by decide)]; exact hC a ha) hB (LPq_ag (hq d (by omega)) (by omega) (agl_fr f1 (by decide))) (by rw [e33]; exact hnm) (by rw [e33]; exact hin d (by omega)) h2 h3
      rw [e33] at t3 t4
      try dsimp only
      rw [L_X0_split_r33_10_s, if_neg (by omega), if_pos (by omega), tN, t1, Option.bind_some, mw_s (by omega)]
      exact ⟨s3, rfl, fr_trans h1 t2, t3, t4⟩) (fun fu s hI => by
      refine ⟨s, ?_, hI.1, hI.2.1⟩
      try dsimp only
      rw [L_X0_split_r33_10_s, if_pos (by omega)]) (f := N) (s := s0) (by omega) ⟨fr_rfl, P0, Nat.zero_le _⟩
  refine ⟨s1, ?_, fr_trans (fr_sub f0 (fun r hr => by simp at hr ⊢; omega)) h1, h2⟩
  unfold f_X0_split_r33 f_X5_begin
  rw [Option.bind_some, hs0]
  try dsimp only at e
  rw [show (0 : Int) = ((0 : Nat) : Int) from rfl] at e ⊢
  rw [e]
  rfl
