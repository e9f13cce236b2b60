/-! what stays is made of the FEW; the reference's made -/
theorem fv_0 {E : Nat → tn} {n : Nat} {L : List (Nat × Nat)} (hL : LOK L) : frl E n L 0 = [0] ∧ ∀ y, y < wd 0 → FV E n L 0 0 y = 1 := by
  have hp0 := prL_0 hL
  have hw0 : wd 0 = 1 := rfl
  have pv0 : ∀ y, y < wd 0 → pvv E n L 0 0 y = 1 := fun y hy => by
    have : y = 0 := by omega
    subst this
    unfold pvv
    rw [hp0]
    show oneP (ax (fst9 0 + 0)) = 1
    rfl
  have hno : ¬ inS (fun f => pvv E n L 0 ((frs (pvv E n L 0) (wd 0) 0).getD f 0)) (frs (pvv E n L 0) (wd 0) 0).length (wd 0) (pvv E n L 0 0) := fun hin => by
    obtain ⟨c, hc⟩ := hin
    have := hc 0 (by decide)
    rw [pv0 0 (by decide)] at this
    exact absurd this (by unfold em; show ¬ (1 : Int) % 32003 = 0 % 32003; decide)
  have hfl : frl E n L 0 = [0] := by
    unfold frl
    rw [hp0]
    exact frs_out hno
  refine ⟨hfl, fun y hy => ?_⟩
  unfold FV
  rw [hfl]
  exact pv0 y hy
theorem stay_in {E : Nat → tn} {n : Nat} {sg Q : Nat → Int} (hG : GP E n) (hsg : ∀ g, g < n → sg g = 1) (hs : stb E n sg Q = true) : ∀ d, d ≤ 6 → inS (FV E n (fewAt E n 6) d) (frl E n (fewAt E n 6) d).length (wd d) (fun k => Q (fst9 d + k)) := by
  intro d hd
  by_cases h0 : d = 0
  · subst h0
    obtain ⟨a, b⟩ := fv_0 (E := E) (n := n) (LOd_at E n 6 (Nat.le_refl _)).1
    rw [a]
    refine ⟨fun _ => Q (fst9 0 + 0), fun k hk => ?_⟩
    have : k = 0 := by have : wd 0 = 1 := rfl; omega
    subst this
    show em (Q (fst9 0 + 0)) (0 + Q (fst9 0 + 0) * FV E n (fewAt E n 6) 0 0 0)
    rw [b 0 (by decide), Int.mul_one, Int.zero_add]
    exact em_r _
  · have h1 := inS_sum (V := FV E n (fewAt E n 6) d) (m := (frl E n (fewAt E n 6) d).length) (W := wd d) (U := mnv E n d) (a := fun i => Q (fst9 d + i)) (wd d) (fun j hj => few_sp (by omega) hd hj)
    refine inS_cg (fun f _ k _ => em_r _) (fun k hk => em_sy (stay_mean hG hd hk (fun g hg x hx => ?_))) h1
    rw [stb_ok.mp hs g hg x hx, hsg g hg, Int.mul_one]
    exact em_md _
theorem X12_mcopy_eq {N p d : Nat} {P : Nat → Nat → Int} {σ : mS} (hN : 1000 ≤ N) (hp : p < 8) (hP : RP σ P) : ∃ σ', L_X12_made_56 N N (p : Int) (d : Int) 0 σ = some σ' ∧ fr [87] σ σ' ∧ ∀ a, a < 729 → σ' 87 0 a = if dg a = d then PR (P p) a else 0 := by
  refine lp_0 (L := fun g k s => L_X12_made_56 N g (p : Int) (d : Int) k s) (I := fun k s => fr [87] σ s ∧ ∀ a, a < k → s 87 0 a = if dg a = d then PR (P p) a else 0) (P := fun s => fr [87] σ s ∧ ∀ a, a < 729 → s 87 0 a = if dg a = d then PR (P p) a else 0) 729 (fun fu k s hk hI => ?_) (fun fu s hI => ?_) (f := N) (s := σ) (by omega) ⟨fr_rfl, fun a h => absurd h (Nat.not_lt_zero _)⟩
  · obtain ⟨h1, h2⟩ := hI
    left
    have ed : mw ((mw ((o_div (k : Int) 81) + (o_rem (o_div (k : Int) 9) 9))) + (o_rem (k : Int) 9)) = (dg k : Int) := by
      rw [o_div_eq (by omega) (by omega) (by decide) (by decide), o_div_eq (by omega) (by omega) (by decide) (by decide), o_rem_eq (by omega) (by omega) (by decide) (by decide), o_rem_eq (by omega) (by omega) (by decide) (by decide), show mw ((k : Int) / 81 + (k : Int) / 9 % 9) = (k : Int) / 81 + (k : Int) / 9 % 9 from mw_id (by omega) (by omega), mw_id (by omega) (by omega)]
      unfold dg
      omega
    try dsimp only
    rw [L_X12_made_56_s, if_neg (by omega), ed, mw729 (show p < 10 by omega) hk, if_pos (show (0 : Int) ≤ ((729 * p + k : Nat) : Int) ∧ ((729 * p + k : Nat) : Int) < 7290 by omega), if_pos (show (0 : Int) ≤ (k : Int) ∧ (k : Int) < 729 by omega), if_pos (show (0 : Int) ≤ (k : Int) ∧ (k : Int) < 729 by omega), tN, tN, h1 81 _ _ (by decide), hP p hp k hk, mw_s (by omega)]
    by_cases q : dg k = d
    · rw [if_pos (by omega)]
      refine ⟨_, rfl, fr_mup h1 (by decide), fun a ha => ?_⟩
      by_cases ea : a = k
      · subst ea; rw [mup_s, if_pos q]
      · rw [mup_k ea]; exact h2 a (by omega)
    · rw [if_neg (by omega)]
      refine ⟨_, rfl, fr_mup h1 (by decide), fun a ha => ?_⟩
      by_cases ea : a = k
      · subst ea; rw [mup_s, if_neg q]
      · rw [mup_k ea]; exact h2 a (by omega)
  · refine ⟨s, ?_, hI⟩
    try dsimp only
    rw [L_X12_made_56_s, if_pos (by omega)]
theorem X12_mcnt_eq {N g c v : Nat} {x1 x2 x3 : Int} {σ : mS} (hN : 1000 ≤ N) (hg : g < 30) (hv : v < 400) (hc : c < 200) (h89 : σ 89 0 g = (v : Int)) (h32 : σ 71 0 32 = (c : Int)) : ∃ σ', L_X12_made_175 N N x1 x2 x3 (g : Int) 0 σ = some σ' ∧ fr [95] σ σ' ∧ (∀ j, j < 40 → σ' 95 0 (40 * c + j) = σ 85 0 (40 * v + j)) ∧ ∀ a, a < 40 * c → σ' 95 0 a = σ 95 0 a := by
  refine lp_0 (L := fun f k s => L_X12_made_175 N f x1 x2 x3 (g : Int) k s) (I := fun k s => fr [95] σ s ∧ (∀ j, j < k → s 95 0 (40 * c + j) = σ 85 0 (40 * v + j)) ∧ ∀ a, a < 40 * c → s 95 0 a = σ 95 0 a) (P := fun s => fr [95] σ s ∧ (∀ j, j < 40 → s 95 0 (40 * c + j) = σ 85 0 (40 * v + j)) ∧ ∀ a, a < 40 * c → s 95 0 a = σ 95 0 a) 40 (fun fu k s hk hI => ?_) (fun fu s hI => ?_) (f := N) (s := σ) (by omega) ⟨fr_rfl, fun a h => absurd h (Nat.not_lt_zero _), fun _ _ => rfl⟩
  · obtain ⟨h1, h2, h3⟩ := hI
    left
    have m40 : ∀ z : Nat, z < 400 → mw (mw ((40 : Int) * (z : Int)) + (k : Int)) = ((40 * z + k : Nat) : Int) := fun z hz => by
      rw [show mw ((40 : Int) * (z : Int)) = 40 * (z : Int) from mw_id (by omega) (by omega), mw_id (by omega) (by omega)]
      omega
    try dsimp only
    rw [L_X12_made_175_s, if_neg (by omega), tN, h1 89 _ _ (by decide), h89, h1 71 _ _ (by decide), h32, m40 v hv, m40 c (by omega), if_pos (by omega), tN, tN, h1 85 _ _ (by decide), mw_s (by omega)]
    refine ⟨_, rfl, fr_mup h1 (by decide), fun j hj => ?_, fun a ha => ?_⟩
    · by_cases ej : j = k
      · subst ej; rw [mup_s]
      · rw [mup_k (by omega)]; exact h2 j (by omega)
    · rw [mup_k (by omega)]; exact h3 a ha
  · refine ⟨s, ?_, hI⟩
    try dsimp only
    rw [L_X12_made_175_s, if_pos (by omega)]
theorem RPt_fq {σ σ' : mS} {pts : List (Nat × Int × List Nat)} {fw : Nat} {R K : List Nat} (h : RPt σ pts fw) (hf : fq R K σ σ') (hd : ∀ r, r ∈ [93, 94, 95] → r ∉ R) (hK : 32 ∉ K ∧ 36 ∉ K) : RPt σ' pts fw := by
  obtain ⟨a, b, c, d, e⟩ := h
  refine ⟨by rw [hf.2 32 hK.1]; exact a, by rw [hf.2 36 hK.2]; exact b, c, d, fun k hk => ?_⟩
  rw [hf.1 93 _ _ (hd 93 (by decide)) (by decide), hf.1 94 _ _ (hd 94 (by decide)) (by decide)]
  obtain ⟨e1, e2, e3⟩ := e k hk
  exact ⟨e1, e2, fun j hj => by rw [hf.1 95 _ _ (hd 95 (by decide)) (by decide)]; exact e3 j hj⟩
/-- one part more -/
theorem X12_madd_eq {N g v m d fw : Nat} {x1 : Int} {pts : List (Nat × Int × List Nat)} {l : List Nat} {σ : mS} (hN : 1000 ≤ N) (hP : RPt σ pts fw) (hl : pts.length < 84) (hg : g < 30) (hv : v < 400) (h89 : σ 89 0 g = (v : Int)) (h91 : σ 91 0 g = (m : Int)) (h85 : ∀ j, j < 40 → σ 85 0 (40 * v + j) = (l.count j : Int)) :
    ∃ s1, L_X12_made_175 N N x1 (d : Int) 1 (g : Int) 0 (mup (mup σ 93 0 pts.length (m : Int)) 94 0 pts.length (d : Int)) = some s1 ∧ s1 71 0 32 = (pts.length : Int) ∧ fq [93, 94, 95] [32] σ (mup s1 71 0 32 ((pts.length + 1 : Nat) : Int)) ∧ RPt (mup s1 71 0 32 ((pts.length + 1 : Nat) : Int)) (pts ++ [(m, (d : Int), l)]) fw := by
  obtain ⟨a, b, c, e, f⟩ := hP
  obtain ⟨s1, t1, t2, t3, t4⟩ := X12_mcnt_eq (N := N) (g := g) (c := pts.length) (v := v) (x1 := x1) (x2 := (d : Int)) (x3 := 1) (σ := mup (mup σ 93 0 pts.length (m : Int)) 94 0 pts.length (d : Int)) hN hg hv (by omega) (by rw [mup_r (by decide), mup_r (by decide)]; exact h89) (by rw [mup_r (by decide), mup_r (by decide)]; exact a)
  refine ⟨s1, t1, by rw [t2 71 _ _ (by decide), mup_r (by decide), mup_r (by decide)]; exact a, fq_mupk (fq_trans (fq_mup (fq_mup fq_rfl (by decide) (by decide)) (by decide) (by decide)) (fq_sub (fq_of t2 (by decide)) (fun r hr => by simp at hr ⊢; omega) (fun k hk => absurd hk (by simp)))) (by decide), ?_, ?_, ?_, e, fun k hk => ?_⟩
  · rw [mup_s, List.length_append]; rfl
  · rw [mup_k (by decide), t2 71 _ _ (by decide), mup_r (by decide), mup_r (by decide)]; exact b
  · rw [List.length_append]; show pts.length + 1 ≤ 84; omega
  · rw [List.length_append] at hk
    replace hk : k < pts.length + 1 := hk
    rw [mup_r (by decide), mup_r (by decide), t2 93 _ _ (by decide), t2 94 _ _ (by decide), mup_r (by decide)]
    by_cases q : k = pts.length
    · subst q
      rw [pgt_la, mup_s, mup_s]
      refine ⟨rfl, rfl, fun j hj => ?_⟩
      rw [mup_r (by decide), t3 j hj, mup_r (by decide), mup_r (by decide)]
      exact h85 j hj
    · obtain ⟨f1, f2, f3⟩ := f k (by omega)
      rw [pgt_ap (by omega), mup_k q, mup_k q]
      refine ⟨f1, f2, fun j hj => ?_⟩
      rw [mup_r (by decide), t4 _ (by omega), mup_r (by decide), mup_r (by decide)]
      exact f3 j hj
/-- what made may change -/
def fDm (σ σ' : mS) : Prop := fq [81, 85, 86, 87, 88, 89, 90, 91, 92, 93, 94, 95] [14, 15, 16, 17, 26, 27, 32, 36] σ σ' ∧ ∀ c, c < 5832 → σ' 81 0 c = σ 81 0 c
theorem fDm_rfl {σ : mS} : fDm σ σ := ⟨fq_rfl, fun _ _ => rfl⟩
theorem fDm_trans {a b c : mS} (h1 : fDm a b) (h2 : fDm b c) : fDm a c := ⟨fq_trans h1.1 h2.1, fun k hk => (h2.2 k hk).trans (h1.2 k hk)⟩
theorem fDm_fP {σ σ' : mS} (h : fP σ σ') : fDm σ σ' := ⟨fq_sub h.1 (fun r hr => by simp at hr ⊢; omega) (fun k hk => by simp at hk ⊢; omega), h.2⟩
theorem fDm_fq {σ σ' : mS} {R K : List Nat} (h : fq R K σ σ') (hR : ∀ r, r ∈ R → r ∈ [85, 86, 87, 88, 89, 90, 91, 92, 93, 94, 95]) (hK : ∀ k, k ∈ K → k ∈ [14, 15, 16, 17, 26, 27, 32, 36]) : fDm σ σ' := ⟨fq_sub h (fun r hr => List.mem_cons_of_mem _ (hR r hr)) hK, fun c _ => h.1 81 _ _ (fun z => absurd (hR 81 z) (by decide)) (by decide)⟩
theorem RP_fD {σ σ' : mS} {P : Nat → Nat → Int} (h : RP σ P) (hf : ∀ c, c < 5832 → σ' 81 0 c = σ 81 0 c) : RP σ' P := fun p hp a ha => by rw [hf _ (by omega)]; exact h p hp a ha
theorem X12_made1_eq {N n p d fw : Nat} {E : Nat → tn} {L : List (Nat × Nat)} {P : Nat → Nat → Int} {pts : List (Nat × Int × List Nat)} {σ : mS} (hN : 1000 ≤ N) (hG : GP E n) (hL : LOK L) (hB : BD L) (hd : d ≤ 6) (hF : RFw σ E n L) (hp : p < 8) (hP : RP σ P) (hnm : nm (P p)) (hin : inS (FV E n L d) (frl E n L d).length (wd d) (fun k => P p (fst9 d + k))) (hR : RPt σ pts fw) (hl : pts.length ≤ fst9 d) :
    ∃ s1 s2 s3 σ', f_X12_plainOf N (d : Int) σ = some s1 ∧ L_X12_made_56 N N (p : Int) (d : Int) 0 s1 = some s2 ∧ f_X12_lessens N s2 = some (1, s3) ∧ L_X12_made_120 N N (p : Int) (d : Int) 1 0 s3 = some σ' ∧ fDm σ σ' ∧ RPt σ' (pts ++ ptdF E n L (P p) d) fw ∧ (pts ++ ptdF E n L (P p) d).length ≤ fst9 (d + 1) := by
  obtain ⟨w1, w2, w3, -⟩ := wd_fst d (List.mem_range.mpr (by omega))
  have h28 := wd_6 d (List.mem_range.mpr (by omega))
  have g1 := hB.2 d hd
  have g2 := gmo_le d (List.mem_range.mpr (by omega))
  obtain ⟨s1, r1, r2, r3, r4⟩ := X12_plain_eq (N := N) hN hG hL hB hd hF
  have P1 := RP_fD hP r2.2
  obtain ⟨s2, t1, t2, t3⟩ := X12_mcopy_eq (N := N) (d := d) hN hp P1
  have hw2 : hmW (s2 87 0) d := fun a ha => by
    rw [t3 a ha]
    refine ⟨?_, fun hne => if_neg hne⟩
    split
    · exact PR_rg hnm ha
    · omega
  obtain ⟨r4a, r4b⟩ := r4
  change RE s1 d (frl E n L d).length (FV E n L d) at r4a
  change ∀ f, f < (frl E n L d).length → s1 89 0 f = ((frl E n L d).getD f 0 : Int) at r4b
  have fq2 : fq [87] [] s1 s2 := fq_of t2 (by decide)
  have RE2 := RE_fq r4a fq2 (by decide) (by decide)
  obtain ⟨s3, pv, a, b, u1, u2, u3, u4, u5, u6⟩ := X12_lessens_eq (N := N) hN hd RE2 hw2
  have v87 : ∀ k, k < wd d → s2 87 0 (ly d k) = P p (fst9 d + k) := fun k hk => by
    rw [t3 _ (ly_lt (by omega) hk), if_pos (ly_dg (by omega) hk)]
    unfold ly
    rw [PR_ax _ (fst_pD (show d ≤ 8 by omega) hk).1]
  have hb : b = true := u6.mpr (inS_cg (fun f _ k _ => em_r _) (fun k hk => by rw [v87 k hk]; exact em_r _) hin)
  subst hb
  obtain ⟨l1, l2, l3, l4, l5, l6⟩ := u2
  have hz : ∀ k, k < wd d → em (s3 87 0 (ly d k)) 0 := fun k hk => by rw [u5.mp rfl k hk]; exact em_r _
  have hco := Rd_co u3 l4 hz
  have hmW := EL_le u3
  have hcf : ∀ f, f < (frl E n L d).length → cof (FV E n L d) (frl E n L d).length (wd d) (fun k => P p (fst9 d + k)) f = s3 91 0 f := fun f hf => by
    rw [cof_eq (V := FV E n L d) (w := fun k => P p (fst9 d + k)) u3.2.2.2.2 (fun k hk => by
      have := hco k hk
      rw [v87 k hk] at this
      exact this) f hf]
    have e1 := l5 f hf
    have e2 := l3 f (by omega)
    unfold em at e1
    rw [← e1]
    omega
  have hfl : ∀ f, f < (frl E n L d).length → (frl E n L d).getD f 0 < (prL L d).length := frs_lt _ _ _
  have f13 : fq [87, 91] [] s1 s3 := fq_trans (fq_sub fq2 (fun r hr => by simp at hr ⊢; omega) (fun k hk => hk)) (fq_of l1 (by decide))
  have D13 : fDm σ s3 := fDm_trans (fDm_fP r2) (fDm_fq f13 (by decide) (fun k hk => absurd hk (by simp)))
  have RPt1 : RPt s1 pts fw := RPt_fq hR r2.1 (by decide) (by decide)
  have RPt3 : RPt s3 pts fw := RPt_fq RPt1 f13 (by decide) (by decide)
  obtain ⟨s4, e, h1, h2⟩ := lp_0 (L := fun g k s => L_X12_made_120 N g (p : Int) (d : Int) 1 k s) (I := fun g s => fq [93, 94, 95] [32] s3 s ∧ RPt s (pts ++ ptd (cof (FV E n L d) (frl E n L d).length (wd d) (fun k => P p (fst9 d + k))) d (fun f => (prL L d).getD ((frl E n L d).getD f 0) []) g) fw) (P := fun s => fq [93, 94, 95] [32] s3 s ∧ RPt s (pts ++ ptdF E n L (P p) d) fw) (frl E n L d).length (fun fu g s hg hI => by
      obtain ⟨h1, h2⟩ := hI
      left
      have hlen := ptd_len (cof (FV E n L d) (frl E n L d).length (wd d) (fun k => P p (fst9 d + k))) d (fun f => (prL L d).getD ((frl E n L d).getD f 0) []) g
      have h91 := l3 g (by omega)
      have hc := hcf g hg
      have hg2 := hfl g hg
      have e91 : s 91 0 g = s3 91 0 g := h1.1 91 _ _ (by decide) (by decide)
      have e27 : s 71 0 27 = ((frl E n L d).length : Int) := by rw [h1.2 27 (by decide), f13.2 27 (by simp)]; exact r4a.1
      have e89 : s 89 0 g = ((frl E n L d).getD g 0 : Int) := by rw [h1.1 89 _ _ (by decide) (by decide), f13.1 89 _ _ (by decide) (by decide)]; exact r4b g hg
      try dsimp only
      rw [L_X12_made_120_s, e27, if_neg (by omega), if_neg (by decide), if_pos (by omega), tN, e91, mw_s (by omega)]
      by_cases q : s3 91 0 g = 0
      · rw [if_pos q]
        refine ⟨s, rfl, h1, ?_⟩
        unfold ptd
        rw [hc, q, if_pos rfl, List.append_nil]
        exact h2
      · have hln : (pts ++ ptd (cof (FV E n L d) (frl E n L d).length (wd d) (fun k => P p (fst9 d + k))) d (fun f => (prL L d).getD ((frl E n L d).getD f 0) []) g).length < 84 := by rw [List.length_append]; omega
        have h32 := h2.1
        rw [if_neg q, h32, if_pos (by omega), tN]
        obtain ⟨s5, y1, y2, y3, y4⟩ := X12_madd_eq (N := N) (g := g) (v := (frl E n L d).getD g 0) (m := (s3 91 0 g).toNat) (d := d) (x1 := (p : Int)) (l := (prL L d).getD ((frl E n L d).getD g 0) []) hN h2 hln (by omega) (by omega) e89 (by rw [e91]; omega) (fun j hj => by
          rw [h1.1 85 _ _ (by decide) (by decide), f13.1 85 _ _ (by decide) (by decide)]
          exact r3.2 _ hg2 j hj)
        rw [show (((s3 91 0 g).toNat : Nat) : Int) = s3 91 0 g from by omega] at y1
        rw [y1, Option.bind_some, y2, mw_s (by omega)]
        refine ⟨_, rfl, fq_trans h1 y3, ?_⟩
        rw [ptd_s, hc, if_neg q, ← List.append_assoc]
        exact y4) (fun fu s hI => by
      refine ⟨s, ?_, hI⟩
      try dsimp only
      rw [L_X12_made_120_s, hI.1.2 27 (by decide), f13.2 27 (by simp), r4a.1, if_pos (by omega)]) (f := N) (s := s3) (by omega) ⟨fq_rfl, by unfold ptd; rw [List.append_nil]; exact RPt3⟩
  refine ⟨s1, s2, s3, s4, r1, t1, u1, e, fDm_trans D13 (fDm_fq h1 (by decide) (by decide)), h2, ?_⟩
  have hlen := ptd_len (cof (FV E n L d) (frl E n L d).length (wd d) (fun k => P p (fst9 d + k))) d (fun f => (prL L d).getD ((frl E n L d).getD f 0) []) (frl E n L d).length
  rw [List.length_append]
  unfold ptdF
  omega
theorem X12_mall_eq {N n p : Nat} {E : Nat → tn} {L : List (Nat × Nat)} {P : Nat → Nat → Int} {σ : mS} (hN : 1000 ≤ N) (hG : GP E n) (hL : LOK L) (hB : BD L) (hF : RFw σ E n L) (hp : p < 8) (hP : RP σ P) (hnm : nm (P p)) (hin : ∀ d, d ≤ 6 → inS (FV E n L d) (frl E n L d).length (wd d) (fun k => P p (fst9 d + k))) :
    ∃ σ', L_X12_made_43 N N (p : Int) 0 (mup (mup σ 71 0 32 0) 71 0 36 (σ 71 0 19)) = some σ' ∧ fDm σ σ' ∧ RPt σ' (ptA7 E n L (P p) 7) L.length := by
  generalize hs0 : mup (mup σ 71 0 32 0) 71 0 36 (σ 71 0 19) = s0
  have D0 : fDm σ s0 := by subst hs0; exact ⟨fq_mupk (fq_mupk fq_rfl (by decide)) (by decide), fun c _ => by rw [mup_r (by decide), mup_r (by decide)]⟩
  have R0 : RPt s0 [] L.length := ⟨by subst hs0; rw [mup_k (by decide)]; exact mup_s _ _ _ _ _, by subst hs0; rw [mup_s]; exact hF.1.1, by decide, hB.1, fun k hk => absurd hk (Nat.not_lt_zero _)⟩
  obtain ⟨s1, e, h1, h2⟩ := lp_0 (L := fun g k s => L_X12_made_43 N g (p : Int) k s) (I := fun d s => fDm σ s ∧ RPt s (ptA7 E n L (P p) d) L.length ∧ (ptA7 E n L (P p) d).length ≤ fst9 d) (P := fun s => fDm σ s ∧ RPt s (ptA7 E n L (P p) 7) L.length) 7 (fun fu d s hd hI => by
      obtain ⟨h1, h2, h3⟩ := hI
      left
      obtain ⟨a1, a2, a3, a4, b1, b2, b3, b4, b5, b6, b7⟩ := X12_made1_eq (N := N) (d := d) hN hG hL hB (by omega) (RFw_fq hF h1.1 (by decide) (by decide) (by decide)) hp (RP_fD hP h1.2) hnm (hin d (by omega)) h2 h3
      try dsimp only
      rw [L_X12_made_43_s, if_neg (by omega), b1, Option.bind_some, b2, Option.bind_some, b3, Option.bind_some]
      try dsimp only
      rw [b4, Option.bind_some, mw_s (by omega)]
      exact ⟨a4, rfl, fDm_trans h1 b5, b6, b7⟩) (fun fu s hI => by
      refine ⟨s, ?_, hI.1, hI.2.1⟩
      try dsimp only
      rw [L_X12_made_43_s, if_pos (by omega)]) (f := N) (s := s0) (by omega) ⟨D0, R0, Nat.zero_le _⟩
  exact ⟨s1, e, h1, h2⟩
