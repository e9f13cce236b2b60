/-! the reference finds the FEW -/
def fF (σ σ' : mS) : Prop := fq [81, 83, 84, 85, 86, 87, 88, 89, 90, 91, 92] [14, 15, 16, 17, 19, 26, 27] σ σ' ∧ ∀ c, c < 5832 → σ' 81 0 c = σ 81 0 c
theorem fF_rfl {σ : mS} : fF σ σ := ⟨fq_rfl, fun _ _ => rfl⟩
theorem fF_trans {a b c : mS} (h1 : fF a b) (h2 : fF b c) : fF a c := ⟨fq_trans h1.1 h2.1, fun k hk => (h2.2 k hk).trans (h1.2 k hk)⟩
theorem fF_fP {σ σ' : mS} (h : fP σ σ') : fF σ σ' := ⟨fq_sub h.1 (fun r hr => by simp at hr ⊢; omega) (fun k hk => by simp at hk ⊢; omega), h.2⟩
theorem X12_ff_copy {N m : Nat} {x1 x2 x3 : Int} {σ : mS} (hN : 1000 ≤ N) (hm : m < 40) (h19 : σ 71 0 19 = (m : Int)) : ∃ σ', L_X12_findFew_60 N N x1 x2 x3 0 σ = some σ' ∧ fr [84] σ σ' ∧ (∀ a, a < 729 → σ' 84 0 (729 * m + a) = σ 81 0 (6561 + a)) ∧ ∀ c, c < 729 * m → σ' 84 0 c = σ 84 0 c := by
  obtain ⟨s, e, h1, h2, h3⟩ := lp_0 (L := fun g k s => L_X12_findFew_60 N g x1 x2 x3 k s) (I := fun k s => fr [84] σ s ∧ (∀ a, a < k → s 84 0 (729 * m + a) = σ 81 0 (6561 + a)) ∧ ∀ c, c < 729 * m → s 84 0 c = σ 84 0 c) (P := fun s => fr [84] σ s ∧ (∀ a, a < 729 → s 84 0 (729 * m + a) = σ 81 0 (6561 + a)) ∧ ∀ c, c < 729 * m → s 84 0 c = σ 84 0 c) 729 (fun fu k s hk hI => by
      obtain ⟨h1, h2, h3⟩ := hI
      left
      have x1 : mw ((6561 : Int) + (k : Int)) = ((6561 + k : Nat) : Int) := by rw [mw_id (by omega) (by omega)]; omega
      have x2 : mw (mw ((729 : Int) * (m : Int)) + (k : Int)) = ((729 * m + k : Nat) : Int) := by rw [show mw ((729 : Int) * (m : Int)) = 729 * (m : Int) from mw_id (by omega) (by omega), mw_id (by omega) (by omega)]; omega
      try dsimp only
      rw [L_X12_findFew_60_s, if_neg (by omega), h1 71 _ _ (by decide), h19, x1, x2, if_pos (by omega), tN, tN, h1 81 _ _ (by decide), mw_s (by omega)]
      refine ⟨_, rfl, fr_mup h1 (by decide), fun a ha => ?_, fun c hc => by rw [mup_k (by omega)]; exact h3 c hc⟩
      by_cases ea : a = k
      · subst ea; rw [mup_s]
      · rw [mup_k (by omega)]; exact h2 a (by omega)) (fun fu s hI => by
      refine ⟨s, ?_, hI⟩
      try dsimp only
      rw [L_X12_findFew_60_s, if_pos (by omega)]) (f := N) (s := σ) (by omega) ⟨fr_rfl, fun a h => absurd h (Nat.not_lt_zero _), fun _ _ => rfl⟩
  exact ⟨s, e, h1, h2, h3⟩
/-- the FEW found and the free PRODUCTS -/
def RFi (σ : mS) (E : Nat → tn) (n d : Nat) (L : List (Nat × Nat)) : Prop := RFw σ E n L ∧ RE σ d (frl E n L d).length (FV E n L d)
theorem X12_few1_eq {N n d y i j fu : Nat} {E : Nat → tn} {L : List (Nat × Nat)} {s : mS} (hN : 1000 ≤ N) (H : RG s E n) (h1 : 1 ≤ d) (h6 : d ≤ 6) (hy : y < wd d) (hL : LOd L d) (hB : BD (fwS E n d L (y + 1))) (ei : pI (fst9 d + y) = i) (ej : pJ (fst9 d + y) = j) (ek : pK (fst9 d + y) = d - i - j) (hij : i + j ≤ d) (hI : RFi s E n d (fwS E n d L y)) :
    ∃ s', L_X12_findFew_28 N (fu + 1) (d : Int) (i : Int) (j : Int) s = L_X12_findFew_28 N fu (d : Int) (i : Int) ((j : Int) - 1) s' ∧ fF s s' ∧ RFi s' E n d (fwS E n d L (y + 1)) := by
  have hG := H.2.2
  obtain ⟨px, pd⟩ := fst_pD (show d ≤ 8 by omega) hy
  have hO := LOd_S (E := E) (n := n) hL h1 h6 y (by omega)
  obtain ⟨hF, hR⟩ := hI
  generalize hLy : fwS E n d L y = Ly at *
  obtain ⟨s1, a1, a2, a3⟩ := X12_meanOf_eq (N := N) (σ := s) hN H px
  rw [ei, ej, ek] at a1
  obtain ⟨s2, b1, b2, b3⟩ := X12_hand_eq (N := N) (σ := s1) hN
  have p2 : fP s s2 := fP_trans (fP_fM a2) (fP_fr b2 (by decide))
  have hmade : ∀ a, a < 729 → s2 87 0 a = PR (meanM E n (fst9 d + y)) a := fun a ha => by rw [b3 a ha]; exact a3 a ha
  have hhom : hom d (PR (meanM E n (fst9 d + y))) := by have := meanM_hom hG px; rw [pd] at this; exact this
  have hR2 : RE s2 d (frl E n Ly d).length (FV E n Ly d) := RE_fq (RE_fq hR a2.1 (by decide) (by decide)) (fq_of b2 (by decide)) (by decide) (by simp)
  have hF2 : RFw s2 E n Ly := RFw_fq hF p2.1 (by decide) (by decide) (by decide)
  obtain ⟨s3, pv, a, b, d1, d2, d3, d4, d5, d6⟩ := X12_lessens_eq (N := N) hN h6 hR2 (fun x hx => by
    rw [hmade x hx]
    exact ⟨PR_rg (fun x _ => meanM_rg E n _ x) hx, fun hne => hhom x hne⟩)
  have hvv : ∀ k, k < wd d → s2 87 0 (ly d k) = mnv E n d y k := fun k hk => by
    rw [hmade _ (ly_lt (by omega) hk)]
    unfold ly mnv
    rw [PR_ax _ (fst_pD (show d ≤ 8 by omega) hk).1]
  have hiff : inS (FV E n Ly d) (frl E n Ly d).length (wd d) (fun k => s2 87 0 (ly d k)) ↔ inS (FV E n Ly d) (frl E n Ly d).length (wd d) (mnv E n d y) := ⟨inS_cg (fun f _ k _ => em_r _) (fun k hk => by rw [hvv k hk]; exact em_r _), inS_cg (fun f _ k _ => em_r _) (fun k hk => by rw [hvv k hk]; exact em_r _)⟩
  have p3 : fP s s3 := fP_trans p2 (fP_fr d2.1 (by decide))
  have x0 : mw (mw ((d : Int) - (i : Int)) - (j : Int)) = ((d - i - j : Nat) : Int) := by rw [show mw ((d : Int) - (i : Int)) = (d : Int) - (i : Int) from mw_id (by omega) (by omega), mw_id (by omega) (by omega)]; omega
  have x9 : mw ((j : Int) + (-1)) = (j : Int) - 1 := by rw [mw_id (by omega) (by omega)]; omega
  rw [L_X12_findFew_28_s, if_neg (by omega), x0, a1, Option.bind_some, b1, Option.bind_some, d1, Option.bind_some, x9]
  try dsimp only
  cases b with
  | true =>
    rw [if_neg (by decide)]
    have hin := hiff.mp (d6.mp rfl)
    refine ⟨s3, rfl, fF_fP p3, ?_⟩
    rw [fwS_in (by rw [hLy]; exact hin), hLy]
    exact ⟨RFw_fq hF2 (fq_of d2.1 (by decide)) (by decide) (by decide) (by simp), RE_fq hR2 (fq_of d2.1 (by decide)) (by decide) (by simp)⟩
  | false =>
    rw [if_pos bi_f]
    have hnin : ¬ inS (FV E n Ly d) (frl E n Ly d).length (wd d) (mnv E n d y) := fun z => absurd (d6.mpr (hiff.mpr z)) (by decide)
    have hnz : ∃ k, k < wd d ∧ s3 87 0 (ly d k) ≠ 0 := by
      refine Classical.byContradiction (fun hno => ?_)
      have : ∀ k, k < wd d → s3 87 0 (ly d k) = 0 := fun k hk => Classical.byContradiction (fun z => hno ⟨k, hk, z⟩)
      exact absurd (d5.mpr this) (by decide)
    have hfw : fwS E n d L (y + 1) = Ly ++ [(d, fst9 d + y)] := by rw [fwS_out (by rw [hLy]; exact hnin), hLy]
    rw [hfw] at hB
    have hlen : (Ly ++ [(d, fst9 d + y)]).length = Ly.length + 1 := by simp
    have hl6 := hB.1
    have hF3 : RFw s3 E n Ly := RFw_fq hF2 (fq_of d2.1 (by decide)) (by decide) (by decide) (by simp)
    obtain ⟨s4, c1, c2, c3, c4⟩ := X12_ff_copy (N := N) (m := Ly.length) (x1 := (d : Int)) (x2 := (i : Int)) (x3 := (j : Int)) (σ := s3) hN (by omega) hF3.1.1
    have h419 : s4 71 0 19 = (Ly.length : Int) := by rw [c2 71 _ _ (by decide)]; exact hF3.1.1
    generalize hs5 : mup (mup s4 83 0 Ly.length (d : Int)) 71 0 19 ((Ly.length + 1 : Nat) : Int) = s5
    have f5 : ∀ r i k, r ≠ 83 → r ≠ 84 → (r = 71 → k ≠ 19) → s5 r i k = s3 r i k := fun r i k h83 h84 h71 => by
      rw [← hs5, mup_def, if_neg (by omega), mup_def, if_neg (by omega)]
      exact c2 r i k (by simp; omega)
    have g5 : ∀ r i k, r ≠ 83 → r ≠ 84 → r ≠ 87 → r ≠ 91 → (r = 71 → k ≠ 19) → s5 r i k = s2 r i k := fun r i k h83 h84 h87 h91 h71 => by
      rw [f5 r i k h83 h84 h71]
      exact d2.1 r i k (by simp; omega)
    generalize hs0 : (fun r i k => if r = 87 ∨ r = 91 then s2 r i k else s5 r i k : mS) = s0
    have z0 : ∀ r i k, r = 87 ∨ r = 91 → s0 r i k = s2 r i k := fun r i k h => by rw [← hs0]; exact if_pos h
    have z1 : ∀ r i k, ¬ (r = 87 ∨ r = 91) → s0 r i k = s5 r i k := fun r i k h => by rw [← hs0]; exact if_neg h
    have z2 : ∀ r i k, r ≠ 83 → r ≠ 84 → (r = 71 → k ≠ 19) → s0 r i k = s2 r i k := fun r i k h83 h84 h71 => by
      by_cases q : r = 87 ∨ r = 91
      · exact z0 r i k q
      · rw [z1 r i k q]; exact g5 r i k h83 h84 (fun z => q (Or.inl z)) (fun z => q (Or.inr z)) h71
    have fq0 : fq [83, 84] [19] s2 s0 := ⟨fun r i k hr h7 => z2 r i k (fun z => hr (by simp [z])) (fun z => hr (by simp [z])) (fun z => absurd z h7), fun k hk => z2 71 0 k (by decide) (by decide) (fun _ z => hk (by simp [z]))⟩
    have hR0 := RE_fq hR2 fq0 (by decide) (by decide)
    have q92 : (fun f k => s0 92 0 (729 * f + ly d k)) = (fun f k => s2 92 0 (729 * f + ly d k)) := by funext f k; exact z2 92 _ _ (by decide) (by decide) (fun z => absurd z (by decide))
    have q90 : (fun f g => s0 90 0 (30 * f + g)) = (fun f g => s2 90 0 (30 * f + g)) := by funext f k; exact z2 90 _ _ (by decide) (by decide) (fun z => absurd z (by decide))
    have q87 : (fun k => s0 87 0 (ly d k)) = (fun k => s2 87 0 (ly d k)) := by funext k; exact z2 87 _ _ (by decide) (by decide) (fun z => absurd z (by decide))
    have w87 : s5 87 0 = s3 87 0 := by funext k; exact f5 87 _ _ (by decide) (by decide) (fun z => absurd z (by decide))
    have w91 : s5 91 0 = s3 91 0 := by funext k; exact f5 91 _ _ (by decide) (by decide) (fun z => absurd z (by decide))
    have hLs : LsR s0 s5 d (frl E n Ly d).length pv a := by
      unfold LsR
      rw [q92, q87, w87, w91]
      refine ⟨fun r i k hr => (z1 r i k (by simp at hr; omega)).symm, d2.2.1, d2.2.2.1, d2.2.2.2.1, fun g hg => ?_, d2.2.2.2.2.2⟩
      have := d2.2.2.2.2.1 g hg
      rw [sm_cg (F := fun f => a f * s0 90 0 (30 * f + g)) (G := fun f => a f * s2 90 0 (30 * f + g)) _ (fun f _ => by rw [z2 90 _ _ (by decide) (by decide) (fun z => absurd z (by decide))])]
      exact this
    obtain ⟨s6, k1, k2, k3, k4, k5⟩ := X12_keeps_eq (N := N) (q := 0) (σ0 := s0) (σ := s5) hN h6 hR0 hLs (by rw [q92, q90]; exact d3) (fun f hf => ⟨(d4 f hf).1, by rw [z2 86 _ _ (by decide) (by decide) (fun z => absurd z (by decide))]; exact (d4 f hf).2⟩) (by rw [w87]; exact hnz)
    rw [c1, Option.bind_some, h419, if_pos (by omega), tN, show mw ((Ly.length : Int) + 1) = ((Ly.length + 1 : Nat) : Int) from mw_s (by omega), hs5, show f_X12_keeps N 0 s5 = some s6 from k1, Option.bind_some]
    have p5 : fF s3 s5 := ⟨⟨fun r i k hr h7 => f5 r i k (fun z => hr (by simp [z])) (fun z => hr (by simp [z])) (fun z => absurd z h7), fun k hk => f5 71 0 k (by decide) (by decide) (fun _ z => hk (by simp [z]))⟩, fun c _ => f5 81 _ _ (by decide) (by decide) (fun z => absurd z (by decide))⟩
    refine ⟨s6, rfl, fF_trans (fF_fP p3) (fF_trans p5 ⟨fq_sub k3 (fun r hr => by simp at hr ⊢; omega) (fun k hk => by simp at hk ⊢; omega), fun c _ => k3.1 81 _ _ (by decide) (by decide)⟩), ?_⟩
    rw [hfw]
    refine ⟨⟨⟨?_, fun i' hi' => ?_⟩, fun i' hi' x hx => ?_⟩, ?_⟩
    · rw [k3.2 19 (by decide), ← hs5, mup_s, hlen]
    · rw [k3.1 83 _ _ (by decide) (by decide), ← hs5, mup_r (by decide)]
      by_cases q : i' = Ly.length
      · subst q
        rw [mup_s]
        unfold fwd
        rw [getD_la]
      · rw [mup_k q, c2 83 _ _ (by decide), fwd_ap (show i' < Ly.length by omega)]
        exact hF3.1.2 i' (by omega)
    · rw [k3.1 84 _ _ (by decide) (by decide), ← hs5, mup_r (by decide), mup_r (by decide)]
      unfold fwP
      by_cases q : i' = Ly.length
      · subst q
        rw [getD_la, c3 x hx, d2.1 81 _ _ (by decide), b2 81 _ _ (by decide)]
        exact a3 x hx
      · rw [getD_ap (show i' < Ly.length by omega), c4 _ (by omega)]
        exact hF3.2 i' (by omega) x hx
    · rw [frl_ap hO h1 h6 hy hnin, show (frl E n Ly d ++ [(prL Ly d).length]).length = (frl E n Ly d).length + 1 from by simp]
      refine RE_V k2 (fun f hf k hk => ?_)
      unfold FV
      rw [frl_ap hO h1 h6 hy hnin]
      try dsimp only
      by_cases ef : f = (frl E n Ly d).length
      · subst ef
        rw [if_pos rfl, getD_la, pvv_la hO h1 h6 hy hk]
        show em (s0 87 0 (ly d k)) _
        rw [z0 87 _ _ (Or.inl rfl), hvv k hk]
        exact em_r _
      · have hlt : f < (frl E n Ly d).length := by omega
        have hq : (frl E n Ly d).getD f 0 < (prL Ly d).length := frs_lt _ _ _ f hlt
        rw [if_neg ef, getD_ap hlt, pvv_ap hO h1 h6 hy hq]
        exact em_r _
def tr3 (r : Nat) : Nat := r * (r + 1) / 2
theorem tr3_ok : ∀ d ∈ List.range 7, ∀ r ∈ List.range (d + 1), tr3 (r + 1) = tr3 r + (r + 1) ∧ tr3 (r + 1) ≤ wd d ∧ ∀ k ∈ List.range (r + 1), pI (fst9 d + (tr3 r + k)) = d - r ∧ pJ (fst9 d + (tr3 r + k)) = r - k ∧ pK (fst9 d + (tr3 r + k)) = k := by decide +kernel
theorem X12_ff28_eq {N n d r : Nat} {E : Nat → tn} {L : List (Nat × Nat)} {s : mS} (hN : 1000 ≤ N) (H : RG s E n) (h1 : 1 ≤ d) (h6 : d ≤ 6) (hr : r ≤ d) (hL : LOd L d) (hB : BD (fwS E n d L (wd d))) (hI : RFi s E n d (fwS E n d L (tr3 r))) :
    ∃ s', L_X12_findFew_28 N N (d : Int) ((d - r : Nat) : Int) (r : Int) s = some s' ∧ fF s s' ∧ RFi s' E n d (fwS E n d L (tr3 (r + 1))) := by
  obtain ⟨q1, q2, q3⟩ := tr3_ok d (List.mem_range.mpr (by omega)) r (List.mem_range.mpr (by omega))
  obtain ⟨s', e, h2, h3⟩ := lp_0 (L := fun g k s => L_X12_findFew_28 N g (d : Int) ((d - r : Nat) : Int) ((r : Int) - k) s) (I := fun k s' => fF s s' ∧ RFi s' E n d (fwS E n d L (tr3 r + k))) (P := fun s' => fF s s' ∧ RFi s' E n d (fwS E n d L (tr3 (r + 1)))) (r + 1) (fun fu k s1 hk hI => by
      obtain ⟨h2, h3⟩ := hI
      left
      obtain ⟨p1, p2, p3⟩ := q3 k (List.mem_range.mpr hk)
      have hBk : BD (fwS E n d L (tr3 r + k + 1)) := BD_S hL h1 h6 (wd d - (tr3 r + k + 1)) (tr3 r + k + 1) (by omega) (by rw [show tr3 r + k + 1 + (wd d - (tr3 r + k + 1)) = wd d from by omega]; exact hB)
      obtain ⟨s2, e2, g1, g2⟩ := X12_few1_eq (N := N) (fu := fu) (i := d - r) (j := r - k) (y := tr3 r + k) hN (RG_fq H h2.1 (by decide) (by decide)) h1 h6 (by omega) hL hBk p1 p2 (by rw [p3]; omega) (by omega) h3
      refine ⟨s2, ?_, fF_trans h2 g1, g2⟩
      try dsimp only
      rw [show (r : Int) - (k : Int) = ((r - k : Nat) : Int) from by omega, e2, show ((r - k : Nat) : Int) - 1 = (r : Int) - ((k + 1 : Nat) : Int) from by omega]) (fun fu s1 hI => by
      refine ⟨s1, ?_, hI.1, by rw [q1]; exact hI.2⟩
      try dsimp only
      rw [L_X12_findFew_28_s, if_pos (by omega)]) (f := N) (s := s) (by omega) ⟨fF_rfl, hI⟩
  try dsimp only at e
  rw [Int.sub_zero] at e
  exact ⟨s', e, h2, h3⟩
theorem X12_ff20_eq {N n d : Nat} {E : Nat → tn} {L : List (Nat × Nat)} {s : mS} (hN : 1000 ≤ N) (H : RG s E n) (h1 : 1 ≤ d) (h6 : d ≤ 6) (hL : LOd L d) (hB : BD (fwS E n d L (wd d))) (hI : RFi s E n d L) :
    ∃ s', L_X12_findFew_20 N N (d : Int) (d : Int) s = some s' ∧ fF s s' ∧ RFi s' E n d (fwS E n d L (wd d)) := by
  obtain ⟨s', e, h2, h3⟩ := lp_0 (L := fun g r s => L_X12_findFew_20 N g (d : Int) ((d : Int) - r) s) (I := fun r s' => fF s s' ∧ RFi s' E n d (fwS E n d L (tr3 r))) (P := fun s' => fF s s' ∧ RFi s' E n d (fwS E n d L (wd d))) (d + 1) (fun fu r s1 hr hI => by
      obtain ⟨h2, h3⟩ := hI
      left
      obtain ⟨s2, e2, g1, g2⟩ := X12_ff28_eq (N := N) (r := r) hN (RG_fq H h2.1 (by decide) (by decide)) h1 h6 (by omega) hL hB h3
      refine ⟨s2, ?_, fF_trans h2 g1, g2⟩
      have x1 : mw ((d : Int) - ((d : Int) - (r : Int))) = (r : Int) := by rw [mw_id (by omega) (by omega)]; omega
      have x2 : mw ((d : Int) - (r : Int) + (-1)) = (d : Int) - ((r + 1 : Nat) : Int) := by rw [mw_id (by omega) (by omega)]; omega
      try dsimp only
      rw [L_X12_findFew_20_s, if_neg (by omega), x1, x2, show (d : Int) - (r : Int) = ((d - r : Nat) : Int) from by omega, e2, Option.bind_some]) (fun fu s1 hI => by
      refine ⟨s1, ?_, hI.1, hI.2⟩
      try dsimp only
      rw [L_X12_findFew_20_s, if_pos (by omega)]) (f := N) (s := s) (by omega) ⟨fF_rfl, hI⟩
  try dsimp only at e
  rw [Int.sub_zero] at e
  exact ⟨s', e, h2, h3⟩
theorem X12_findFew_eq {N n : Nat} {E : Nat → tn} {σ : mS} (hN : 1000 ≤ N) (H : RG σ E n) (hB : BD (fewAt E n 6)) : ∃ σ', f_X12_findFew N σ = some σ' ∧ fF σ σ' ∧ RFw σ' E n (fewAt E n 6) := by
  have hG := H.2.2
  generalize hs0 : mup σ 71 0 19 0 = s0
  have p0 : fF σ s0 := by subst hs0; exact ⟨fq_mupk fq_rfl (by decide), fun c _ => mup_r (by decide)⟩
  have r0 : RFw s0 E n [] := ⟨⟨by subst hs0; exact mup_s _ _ _ _ _, fun i hi => absurd hi (Nat.not_lt_zero _)⟩, fun i hi => absurd hi (Nat.not_lt_zero _)⟩
  obtain ⟨s', e, h2, h3⟩ := lp_up (L := fun g d s => L_X12_findFew_7 N g d s) (I := fun d s => 1 ≤ d ∧ fF σ s ∧ RFw s E n (fewAt E n (d - 1))) (P := fun s => fF σ s ∧ RFw s E n (fewAt E n 6)) 7 (fun fu d s hd hI => by
      obtain ⟨hd1, h2, h3⟩ := hI
      left
      have hLd := LOd_at E n (d - 1) (by omega)
      have hBd : BD (fewAt E n (d - 1)) := BD_at (6 - (d - 1)) (d - 1) (by omega) (by rw [show d - 1 + (6 - (d - 1)) = 6 from by omega]; exact hB)
      have hBd' : BD (fewAt E n d) := BD_at (6 - d) d (by omega) (by rw [show d + (6 - d) = 6 from by omega]; exact hB)
      have hfd : fewAt E n d = fwS E n d (fewAt E n (d - 1)) (wd d) := by
        obtain ⟨d', rfl⟩ : ∃ d', d = d' + 1 := ⟨d - 1, by omega⟩
        rfl
      obtain ⟨s1, a1, a2, a3, a4⟩ := X12_plain_eq (N := N) (d := d) hN hG hLd.1 hBd (by omega) h3
      have hF1 : RFw s1 E n (fewAt E n (d - 1)) := RFw_fq h3 a2.1 (by decide) (by decide) (by decide)
      have hs1 : fF σ s1 := fF_trans h2 (fF_fP a2)
      obtain ⟨s2, b1, b2, b3⟩ := X12_ff20_eq (N := N) (s := s1) hN (RG_fq H hs1.1 (by decide) (by decide)) hd1 (by omega) (LOd_up hLd (by omega)) (by rw [← hfd]; exact hBd') ⟨hF1, a4.1⟩
      try dsimp only
      rw [L_X12_findFew_7_s, if_neg (by omega), a1, Option.bind_some, b1, Option.bind_some, mw_s (by omega)]
      refine ⟨s2, rfl, by omega, fF_trans hs1 b2, ?_⟩
      rw [show d + 1 - 1 = d from by omega, hfd]
      exact b3.1) (fun fu s hI => by
      refine ⟨s, ?_, hI.2⟩
      try dsimp only
      rw [L_X12_findFew_7_s, if_pos (by omega)]) N 1 s0 (by omega) (by omega) ⟨by omega, p0, r0⟩
  refine ⟨s', ?_, h2, h3⟩
  unfold f_X12_findFew
  try dsimp only at e
  rw [hs0, show (1 : Int) = ((1 : Nat) : Int) from rfl, e]
  rfl
