/-! the class finds the FEW -/
theorem LyC_frf {σ σ' : mS} {E : Nat → tn} {n d : Nat} {L : List (Nat × Nat)} (h : LyC σ E n L d) (hB : BD L) (hd : d ≤ 7) (hp : CPw σ') (hC : CLy σ') (hF : FW σ' L) (ha : ∀ a, a < d → agl a σ σ') : LyC σ' E n L d := ⟨hp, hC, hF, fun a had => LPq_ag (h.2.2.2 a had) (by
  have := hB.2 a (by omega)
  have := gmo_le a (List.mem_range.mpr (by omega))
  omega) (ha a had)⟩
theorem X0_addFew_eq {N n d : Nat} {E : Nat → tn} {L : List (Nat × Nat)} {σ : mS} (hN : 1000 ≤ N) (hd : d ≤ 6) (h1 : 1 ≤ d) (hL : LOd L d) (hB : BD (fwS E n d L (wd d))) (hn : σ 5 0 0 = (n : Int)) (hG : GP E n) (hE : ∀ g, g < n → elC σ g = E g) (hc : LyC σ E n L d) (hq : LPq σ E n L d (prL L d).length) :
    ∃ σ', f_X0_addFew N d σ = some σ' ∧ LyC σ' E n (fwS E n d L (wd d)) d ∧ LPq σ' E n (fwS E n d L (wd d)) d (prL (fwS E n d L (wd d)) d).length ∧ fr LRf σ σ' ∧ (∀ k, k ≠ 0 → σ' 42 0 k = σ 42 0 k) ∧ ∀ a, a ≠ d → agl a σ σ' := by
  have h48 : n ≤ 48 := few48 hG.2.2.1 hG.2.2.2.1
  have hw := (wd_6 d (List.mem_range.mpr (by omega))).1
  have g56 := gmo_le d (List.mem_range.mpr (by omega))
  obtain ⟨s1, e, h2, h3, h4, h5, h6⟩ := lp_0 (L := fun g k s => L_X0_addFew_12 N g d (iv n : Int) k s) (I := fun j s => LyC s E n (fwS E n d L j) d ∧ LPq s E n (fwS E n d L j) d (prL (fwS E n d L j) d).length ∧ fr LRf σ s ∧ (∀ k, k ≠ 0 → s 42 0 k = σ 42 0 k) ∧ ∀ a, a ≠ d → agl a σ s) (P := fun s => LyC s E n (fwS E n d L (wd d)) d ∧ LPq s E n (fwS E n d L (wd d)) d (prL (fwS E n d L (wd d)) d).length ∧ fr LRf σ s ∧ (∀ k, k ≠ 0 → s 42 0 k = σ 42 0 k) ∧ ∀ a, a ≠ d → agl a σ s) (wd d) (fun fu j s hj hI => by
      obtain ⟨h2, h3, h4, h5, h6⟩ := hI
      left
      have hLj := LOd_S (E := E) (n := n) hL h1 hd j (by omega)
      have hBj : BD (fwS E n d L j) := BD_S hL h1 hd (wd d - j) j (by omega) (by rw [show j + (wd d - j) = wd d from by omega]; exact hB)
      have hBj1 : BD (fwS E n d L (j + 1)) := BD_S hL h1 hd (wd d - (j + 1)) (j + 1) (by omega) (by rw [show j + 1 + (wd d - (j + 1)) = wd d from by omega]; exact hB)
      obtain ⟨sa, a1, a2, a3⟩ := X0_average_eq (N := N) (d := d) (j := j) hN h2.1 h2.2.1 hd hj (by rw [h4 5 _ _ (by decide)]; exact hn) hG (fun g hg => by
        rw [← hE g hg]; unfold elC
        rw [h4 7 _ _ (by decide), h4 7 _ _ (by decide), h4 7 _ _ (by decide)])
      have hPa : LPq sa E n (fwS E n d L j) d (prL (fwS E n d L j) d).length := LPq_ag h3 (by have := hBj.2 d hd; omega) (agl_fr a2 (by decide))
      have hCa : CLy sa := fun a ha => by rw [a2 47 _ _ (by decide), a2 47 _ _ (by decide), a2 47 _ _ (by decide)]; exact h2.2.1 a ha
      have hFa := FW_fr h2.2.2.1 a2 (by decide)
      have hpa : CPw sa := CPw_ag h2.1 (ag_fr a2 (by decide))
      have fra : fr LRf σ sa := fr_trans h4 (fr_sub a2 (fun r hr => by unfold LRf; simp at hr ⊢; omega))
      have k42 : ∀ k, k ≠ 0 → sa 42 0 k = σ 42 0 k := fun k hk => by rw [a2 42 _ _ (by decide)]; exact h5 k hk
      have aga : ∀ a, a ≠ d → agl a σ sa := fun a ha => agl_trans (h6 a ha) (agl_fr a2 (by decide))
      have c1 := (h2.2.1 d hd).2.1
      have hca : LyC sa E n (fwS E n d L j) d := LyC_frf h2 hBj (by omega) hpa hCa hFa (fun a ha => agl_fr a2 (by decide))
      have hm3 := hPa.1
      obtain ⟨b, sb, k1, k2, k3⟩ := X3_keep_r46 (N := N) (d := d) (z := ((prL (fwS E n d L j) d).length : Int)) (v := mnv E n d j) hN hd hCa hPa.2.2.2.2 a3 (fun y _ => meanM_rg _ _ _ _)
      try dsimp only
      rw [L_X0_addFew_12_s, c1, if_neg (by omega), a1, Option.bind_some, mw_s (by omega)]
      unfold f_X3_isFull
      rw [hm3, (hCa d hd).2.2]
      -- in the span: nothing is added
      have stay : ∀ s', inS (FV E n (fwS E n d L j) d) (frl E n (fwS E n d L j) d).length (wd d) (mnv E n d j) → fr [59, 60] sa s' → ∃ s'', L_X0_addFew_12 N fu d (iv n : Int) ((j + 1 : Nat) : Int) s' = L_X0_addFew_12 N fu d (iv n : Int) ((j + 1 : Nat) : Int) s'' ∧ LyC s'' E n (fwS E n d L (j + 1)) d ∧ LPq s'' E n (fwS E n d L (j + 1)) d (prL (fwS E n d L (j + 1)) d).length ∧ fr LRf σ s'' ∧ (∀ k, k ≠ 0 → s'' 42 0 k = σ 42 0 k) ∧ ∀ a, a ≠ d → agl a σ s'' := fun s' hin hf => by
        rw [fwS_in hin]
        refine ⟨s', rfl, LyC_frf hca hBj (by omega) (CPw_ag hpa (ag_fr hf (by decide))) (fun a ha => by rw [hf 47 _ _ (by decide), hf 47 _ _ (by decide), hf 47 _ _ (by decide)]; exact hCa a ha) (FW_fr hFa hf (by decide)) (fun a ha => agl_fr hf (by decide)), LPq_ag hPa (by have := hBj.2 d hd; omega) (agl_fr hf (by decide)), fr_trans fra (fr_sub hf (fun r hr => by unfold LRf; simp at hr ⊢; omega)), fun k hk => by rw [hf 42 _ _ (by decide)]; exact k42 k hk, fun a ha => agl_trans (aga a ha) (agl_fr hf (by decide))⟩
      have stay0 := fun hin => stay sa hin fr_rfl
      by_cases hin : inS (FV E n (fwS E n d L j) d) (frl E n (fwS E n d L j) d).length (wd d) (mnv E n d j)
      · by_cases q1 : ((prL (fwS E n d L j) d).length : Int) < (gmo d : Int)
        · rw [if_pos q1, Option.bind_some]
          try dsimp only
          rw [if_pos rfl]
          by_cases q2 : (6 : Int) ≤ sa 42 0 0
          · rw [if_pos q2]; exact stay0 hin
          · rw [if_neg q2, hm3, k1, Option.bind_some]
            try dsimp only
            rcases k3 with ⟨rfl, -, hfr⟩ | ⟨rfl, hout, -⟩
            · rw [if_pos bi_f]; exact stay sb hin hfr
            · exact absurd hin hout
        · rw [if_neg q1, Option.bind_some]
          try dsimp only
          rw [if_neg (by decide)]; exact stay0 hin
      · have hex := fwS_out hin
        have hB1 : BD (fwS E n d L j ++ [(d, fst9 d + j)]) := by rw [← hex]; exact hBj1
        have hq1 : (prL (fwS E n d L j) d).length < gmo d := by
          have := hB1.2 d hd
          rw [prL_ap hLj h1 hd hj, List.length_append] at this
          simp at this
          omega
        have hq2 : (fwS E n d L j).length < 6 := by
          have := hB1.1
          simp at this
          omega
        rw [if_pos (by omega), Option.bind_some]
        try dsimp only
        rw [if_pos rfl, if_neg (by rw [hFa.1]; omega), hm3, k1, Option.bind_some]
        try dsimp only
        rcases k3 with ⟨-, hin2, -⟩ | ⟨rfl, -, hLE2, h53, h53o⟩
        · exact absurd hin2 hin
        · have hCb := CLy_kp hCa k2
          have hFb := FW_fr hFa k2.1 (by decide)
          obtain ⟨sc, r1, r2, r3, r4, r5, r6, r7⟩ := X0_addOne_eq (N := N) (σ0 := sa) (σ := sb) hN hd h1 hj hLj hB1 hin hFb hCb (fun y hy => by rw [k2.1 46 _ _ (by decide)]; exact a3 y hy) hPa k2 hLE2 h53 h53o
          rw [if_neg (by decide), r1, Option.bind_some]
          rw [hex]
          have agc : ∀ a, a ≠ d → agl a sa sc := fun a ha => agl_trans (agl_kp k2 ha) (r6 a ha)
          refine ⟨sc, rfl, ⟨CPw_ag (CPw_ag hpa (ag_fr k2.1 (by decide))) (ag_fr r3 (by decide)), r4, r5, fun a ha => ?_⟩, r2, fr_trans fra (fr_trans (fr_sub k2.1 (fun r hr => by unfold LRf; simp at hr ⊢; omega)) r3), fun k hk => by rw [r7 k hk, k2.1 42 _ _ (by decide)]; exact k42 k hk, fun a ha => agl_trans (aga a ha) (agc a ha)⟩
          have h64 : (prL (fwS E n d L j) a).length ≤ 64 := by
            have := hBj.2 a (by omega)
            have := gmo_le a (List.mem_range.mpr (by omega))
            omega
          exact LPq_cg (LPq_ag (hca.2.2.2 a ha) h64 (agc a (by omega))) (prL_ap2 hLj h1 hd hj ha) (fun q hq y => pvv_ap2 hLj h1 hd hj ha hq y)) (fun fu s hI => by
      refine ⟨s, ?_, hI⟩
      try dsimp only
      rw [L_X0_addFew_12_s, (hI.1.2.1 d hd).2.1, if_pos (by omega)]) (f := N) (s := σ) (by omega) ⟨hc, hq, fr_rfl, fun _ _ => rfl, fun a _ => agl_rfl⟩
  refine ⟨s1, ?_, h2, h3, h4, h5, h6⟩
  unfold f_X0_addFew
  rw [hn, X11_inverse_eq (by omega) (by omega), Option.bind_some]
  try dsimp only at e ⊢
  rw [e]
  rfl
/-- all layers, the FEW, as they are found -/
def CFw (σ : mS) (E : Nat → tn) (n : Nat) : Prop := FW σ (fewAt E n 6) ∧ ∀ a, a ≤ 6 → LPq σ E n (fewAt E n 6) a (prL (fewAt E n 6) a).length
theorem X0_find_eq {N n : Nat} {E : Nat → tn} {σ : mS} (hN : 1000 ≤ N) (H : CPw σ) (hC : CLy σ) (h0 : ∀ i, i < 6 → σ 49 0 i = 0) (hB : BD (fewAt E n 6)) (hn : σ 5 0 0 = (n : Int)) (hG : GP E n) (hE : ∀ g, g < n → elC σ g = E g) (hf : σ 42 0 1 = 0 ∨ (σ 42 0 1 = 1 ∧ CFw σ E n)) :
    ∃ σ', f_X0_find N σ = some σ' ∧ CFw σ' E n ∧ σ' 42 0 1 = 1 ∧ fr LRf σ σ' ∧ CLy σ' ∧ CPw σ' ∧ ∀ i, i < 6 → σ' 49 0 i = 0 := by
  unfold f_X0_find
  rcases hf with hf | ⟨hf, hcf⟩
  · rw [if_pos hf]
    -- layer 0
    generalize hs0 : mup (mup (mup (mup (mup σ 42 0 0 0) 47 0 3 0) 47 0 7 0) 51 0 0 1) 52 0 0 6 = s0
    have f0 : fr [42, 47, 51, 52] σ s0 := by subst hs0; exact fr_mup (fr_mup (fr_mup (fr_mup (fr_mup fr_rfl (by decide)) (by decide)) (by decide)) (by decide)) (by decide)
    have v47 : ∀ a k, ¬ (a = 0 ∧ (k = 3 ∨ k = 7)) → s0 47 a k = σ 47 a k := fun a k h => by
      subst hs0
      rw [mup_r (by decide), mup_r (by decide), mup_def, if_neg (by omega), mup_def, if_neg (by omega), mup_r (by decide)]
    have C0 : CLy s0 := fun a ha => by rw [v47 a 0 (by omega), v47 a 1 (by omega), v47 a 2 (by omega)]; exact hC a ha
    have z7 : s0 47 0 7 = 0 := by subst hs0; rw [mup_r (by decide), mup_r (by decide), mup_s]
    have r51 : s0 51 (64 * 0 + 0) 0 = 1 := by subst hs0; rw [mup_r (by decide)]; exact mup_s _ _ _ _ _
    have r52 : s0 52 0 0 = 6 := by subst hs0; exact mup_s _ _ _ _ _
    have c42 : s0 42 0 0 = 0 := by subst hs0; rw [mup_r (by decide), mup_r (by decide), mup_r (by decide), mup_r (by decide), mup_s]
    have hnil : LOd ([] : List (Nat × Nat)) 0 := ⟨fun i hi => absurd hi (Nat.not_lt_zero _), fun i hi => absurd hi (Nat.not_lt_zero _)⟩
    have hBnil : BD ([] : List (Nat × Nat)) := BD_at (E := E) (n := n) 6 0 (by omega) (by rw [Nat.zero_add]; exact hB)
    have hp0 : prL ([] : List (Nat × Nat)) 0 = [[]] := prL_0 hnil.1
    have hw0 : wd 0 = 1 := rfl
    have pv0 : ∀ y, y < wd 0 → pvv E n [] 0 0 y = 1 := fun y hy => by
      have : y = 0 := by omega
      subst this
      unfold pvv
      rw [hp0]
      show oneP (ax (fst9 0 + 0)) = 1
      rfl
    obtain ⟨b, s1, k1, k2, k3⟩ := X3_keep_r51 (N := N) (d := 0) (m := 0) (q1 := 0) (z := 0) (V := fun f => pvv E n [] 0 f) (v := pvv E n [] 0 0) (σ := s0) hN (by omega) C0 ⟨z7, fun f hf => absurd hf (Nat.not_lt_zero _), EL_nil _ _ _ _ _⟩ (by omega) (fun y hy => by
      rw [pv0 y hy]
      have : y = 0 := by omega
      subst this
      exact r51) (fun y hy => by rw [pv0 y hy]; omega)
    have hno : ¬ inS (fun f => pvv E n [] 0 f) 0 (wd 0) (pvv E n [] 0 0) := fun hin => by
      obtain ⟨c, hc⟩ := hin
      have := hc 0 (by decide)
      rw [pv0 0 (by decide)] at this
      exact absurd this (by unfold em; show ¬ (1 : Int) % 32003 = 0 % 32003; decide)
    have hfrs1 : frs (pvv E n [] 0) (wd 0) 1 = [0] := frs_out hno
    rcases k3 with ⟨-, hin, -⟩ | ⟨rfl, -, hLE, h53, -⟩
    · exact absurd hin hno
    generalize hs2 : mup s1 47 0 3 1 = s2
    have fs2 : fr [42, 47, 51, 52, 53, 55, 57, 58, 59, 60] σ s2 := by
      subst hs2
      exact fr_mup (fr_trans (fr_sub f0 (fun r hr => by simp at hr ⊢; omega)) (fr_sub k2.1 (fun r hr => by simp at hr ⊢; omega))) (by decide)
    have C2 : CLy s2 := fun a ha => by
      subst hs2
      rw [mup_k (by decide), mup_k (by decide), mup_k (by decide)]
      exact CLy_kp C0 k2 a ha
    have L0 : LPq s2 E n [] 0 (prL ([] : List (Nat × Nat)) 0).length := by
      rw [hp0]
      refine ⟨by subst hs2; exact mup_s _ _ _ _ _, by rw [hp0]; exact Nat.le_refl _, fun p hp => ?_, ?_, ?_⟩
      · have : p = 0 := by simp at hp; exact hp
        subst this
        rw [hp0]
        refine ⟨fun y hy => ?_, fun i hi => ?_, ?_⟩
        · rw [pv0 y hy]
          have : y = 0 := by omega
          subst this
          subst hs2
          rw [mup_r (by decide), k2.1 51 _ _ (by decide), r51]
          rfl
        · rw [fs2 49 _ _ (by decide)]
          exact h0 i hi
        · subst hs2
          rw [mup_r (by decide), k2.1 52 _ _ (by decide), r52]
          rfl
      · show ∀ f, f < (frs (pvv E n [] 0) (wd 0) 1).length → s2 53 0 f = ((frs (pvv E n [] 0) (wd 0) 1).getD f 0 : Int)
        rw [hfrs1]
        intro f hf
        have : f = 0 := by simp at hf; exact hf
        subst this
        subst hs2
        rw [mup_r (by decide), h53]
        rfl
      · show LE s2 0 (frs (pvv E n [] 0) (wd 0) 1).length (fun f => pvv E n [] 0 ((frs (pvv E n [] 0) (wd 0) 1).getD f 0))
        rw [hfrs1]
        subst hs2
        refine LE_V (LE_fr hLE (mup_k (by decide)) (fun f k _ => ⟨mup_r (by decide), mup_r (by decide)⟩) (fun f _ => mup_r (by decide))) (fun f hf y _ => ?_)
        have : f = 0 := Nat.lt_one_iff.mp hf
        subst this
        exact em_r _
    have F0 : FW s2 [] := ⟨by subst hs2; rw [mup_r (by decide), k2.1 42 _ _ (by decide), c42]; rfl, fun i hi => absurd hi (Nat.not_lt_zero _)⟩
    obtain ⟨s3, e, h2, h3, h4⟩ := lp_up (L := fun g k s => L_X0_find_19 N g k s) (I := fun d s => 1 ≤ d ∧ LyC s E n (fewAt E n (d - 1)) d ∧ fr LRf σ s ∧ ∀ i, i < 6 → s 49 0 i = 0) (P := fun s => LyC s E n (fewAt E n 6) 7 ∧ fr LRf σ s ∧ ∀ i, i < 6 → s 49 0 i = 0) 7 (fun fu d s hd hI => by
        obtain ⟨hd1, h2, h3, h4⟩ := hI
        left
        have hLd := LOd_at E n (d - 1) (by omega)
        have hBd : BD (fewAt E n (d - 1)) := BD_at (6 - (d - 1)) (d - 1) (by omega) (by rw [show d - 1 + (6 - (d - 1)) = 6 from by omega]; exact hB)
        have hBd' : BD (fewAt E n d) := BD_at (6 - d) d (by omega) (by rw [show d + (6 - d) = 6 from by omega]; exact hB)
        have hfd : fewAt E n d = fwS E n d (fewAt E n (d - 1)) (wd d) := by
          obtain ⟨d', rfl⟩ : ∃ d', d = d' + 1 := ⟨d - 1, by omega⟩
          rfl
        generalize hsa : mup (mup s 47 d 3 0) 47 d 7 0 = sa
        have fa : fr [47] s sa := by subst hsa; exact fr_mup (fr_mup fr_rfl (by decide)) (by decide)
        have va : ∀ a k, ¬ (a = d ∧ (k = 3 ∨ k = 7)) → sa 47 a k = s 47 a k := fun a k h => by subst hsa; rw [mup_def, if_neg (by omega), mup_def, if_neg (by omega)]
        have Ca : CLy sa := fun a ha => by rw [va a 0 (by omega), va a 1 (by omega), va a 2 (by omega)]; exact h2.2.1 a ha
        have aga : ∀ a, a ≠ d → agl a s sa := fun a ha => ⟨fun k => va a k (fun z => ha z.1), fun p k _ => ⟨fa 51 _ _ (by decide), fa 49 _ _ (by decide), fa 55 _ _ (by decide), fa 57 _ _ (by decide)⟩, fun k => ⟨fa 52 _ _ (by decide), fa 53 _ _ (by decide), fa 58 _ _ (by decide)⟩⟩
        have hca : LyC sa E n (fewAt E n (d - 1)) d := LyC_frf h2 hBd (by omega) (CPw_ag h2.1 (ag_fr fa (by decide))) Ca (FW_fr h2.2.2.1 fa (by decide)) (fun a ha => aga a (by omega))
        have hqa : LPq sa E n (fewAt E n (d - 1)) d 0 := ⟨by subst hsa; rw [mup_k (by decide), mup_s]; rfl, Nat.zero_le _, fun p hp => absurd hp (Nat.not_lt_zero _), fun f hf => absurd hf (Nat.not_lt_zero _), by subst hsa; exact mup_s _ _ _ _ _, fun f hf => absurd hf (Nat.not_lt_zero _), EL_nil _ _ _ _ _⟩
        obtain ⟨sb, r1, r2, r3, r4, r5⟩ := X0_addProducts_eq (N := N) hN hG (by omega) hLd hBd hd1 hca hqa
        have hcb := LyC_ag hca hBd (by omega) r3 r4 (fun a ha => r5 a (by omega))
        have f3b : fr LRf σ sb := fr_trans h3 (fr_trans (fr_sub fa (fun r hr => by unfold LRf; simp at hr ⊢; omega)) (fr_sub r3 (fun r hr => by unfold LRs at hr; unfold LRf; simp at hr ⊢; omega)))
        obtain ⟨sc, t1, t2, t3, t4, t5, t6⟩ := X0_addFew_eq (N := N) (L := fewAt E n (d - 1)) hN (by omega) hd1 (LOd_up hLd (by omega)) (by rw [← hfd]; exact hBd') (by rw [f3b 5 _ _ (by decide)]; exact hn) hG (fun g hg => by
          rw [← hE g hg]; unfold elC
          rw [f3b 7 _ _ (by decide), f3b 7 _ _ (by decide), f3b 7 _ _ (by decide)]) hcb r2
        rw [← hfd] at t2 t3
        try dsimp only
        rw [L_X0_find_19_s, if_neg (by omega), if_pos (by omega), tN, show f_X3_empty N d s = some sa from by unfold f_X3_empty; rw [hsa], Option.bind_some, if_pos (by omega), r1, Option.bind_some, if_pos (by omega), t1, Option.bind_some, mw_s (by omega)]
        refine ⟨sc, rfl, by omega, ?_, fr_trans f3b t4, fun i hi => ?_⟩
        · rw [show d + 1 - 1 = d from by omega]
          refine ⟨t2.1, t2.2.1, t2.2.2.1, fun a ha => ?_⟩
          by_cases ea : a = d
          · subst ea; exact t3
          · exact t2.2.2.2 a (by omega)
        · have q1 := (t6 0 (by omega)).2.1 0 i (by decide)
          have q2 := (r5 0 (by omega)).2.1 0 i (by decide)
          have q3 := (aga 0 (by omega)).2.1 0 i (by decide)
          rw [show 64 * 0 + 0 = 0 from rfl] at q1 q2 q3
          rw [q1.2.1, q2.2.1, q3.2.1]
          exact h4 i hi) (fun fu s hI => by
        refine ⟨s, ?_, hI.2⟩
        try dsimp only
        rw [L_X0_find_19_s, if_pos (by omega)]) N 1 s2 (by omega) (by omega) ⟨by omega, ⟨CPw_ag H (ag_fr fs2 (by decide)), C2, F0, fun a ha => by
          have : a = 0 := by omega
          subst this
          exact L0⟩, fr_sub fs2 (fun r hr => by unfold LRf; simp at hr ⊢; omega), fun i hi => by rw [fs2 49 _ _ (by decide)]; exact h0 i hi⟩
    refine ⟨mup s3 42 0 1 1, ?_, ⟨⟨by rw [mup_k (by decide)]; exact h2.2.2.1.1, fun i hi => by rw [mup_r (by decide), mup_r (by decide)]; exact h2.2.2.1.2 i hi⟩, fun a ha => LPq_ag (h2.2.2.2 a (by omega)) (by
      have := hB.2 a ha
      have := gmo_le a (List.mem_range.mpr (by omega))
      omega) (agl_fr (R := [42]) (fr_mup fr_rfl (by decide)) (by decide))⟩, mup_s _ _ _ _ _, fr_mup h3 (by decide), fun a ha => by rw [mup_r (by decide), mup_r (by decide), mup_r (by decide)]; exact h2.2.1 a ha, CPw_ag h2.1 (ag_fr (R := [42]) (fr_mup fr_rfl (by decide)) (by decide)), fun i hi => by rw [mup_r (by decide)]; exact h4 i hi⟩
    unfold f_X0_addProductOfNothing f_X3_empty
    rw [Option.bind_some, if_pos (by decide), show (64 * 0 + 0 : Nat) = 0 from rfl, hs0, show f_X3_keepIfFree_r51 N 0 0 0 s0 = some (bi true, s1) from k1, Option.bind_some, Option.bind_some]
    try dsimp only
    try dsimp only at e
    rw [hs2, show (1 : Int) = ((1 : Nat) : Int) from rfl, e]
    rfl
  · rw [if_neg (by rw [hf]; decide)]
    exact ⟨σ, rfl, hcf, hf, fr_rfl, hC, H, h0⟩
