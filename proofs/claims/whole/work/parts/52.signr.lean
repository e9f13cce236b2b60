/-! the reference's signs -/
/-- the stores agree but in these regions, and in region 71 but at these places -/
def fq (R K : List Nat) (σ σ' : mS) : Prop := (∀ r i k, r ∉ R → r ≠ 71 → σ' r i k = σ r i k) ∧ ∀ k, k ∉ K → σ' 71 0 k = σ 71 0 k
theorem fq_rfl {R K : List Nat} {σ : mS} : fq R K σ σ := ⟨fun _ _ _ _ _ => rfl, fun _ _ => rfl⟩
theorem fq_trans {R K : List Nat} {a b c : mS} (h1 : fq R K a b) (h2 : fq R K b c) : fq R K a c := ⟨fun r i k h h' => (h2.1 r i k h h').trans (h1.1 r i k h h'), fun k h => (h2.2 k h).trans (h1.2 k h)⟩
theorem fq_sub {R R' K K' : List Nat} {a b : mS} (h : fq R K a b) (hs : ∀ r, r ∈ R → r ∈ R') (hk : ∀ k, k ∈ K → k ∈ K') : fq R' K' a b := ⟨fun r i k hr h7 => h.1 r i k (fun q => hr (hs r q)) h7, fun k hr => h.2 k (fun q => hr (hk k q))⟩
theorem fq_mup {R K : List Nat} {σ σ' : mS} {r i k : Nat} {z : Int} (h : fq R K σ σ') (hr : r ∈ R) (h7 : r ≠ 71) : fq R K σ (mup σ' r i k z) := ⟨fun r' i' k' h' h7' => by
  rw [mup_r (fun e => h' (by rw [e]; exact hr))]; exact h.1 r' i' k' h' h7', fun k' hk' => by rw [mup_r (fun e => h7 e.symm)]; exact h.2 k' hk'⟩
theorem fq_mupk {R K : List Nat} {σ σ' : mS} {k : Nat} {z : Int} (h : fq R K σ σ') (hk : k ∈ K) : fq R K σ (mup σ' 71 0 k z) := ⟨fun r' i' k' h' h7' => by
  rw [mup_r h7']; exact h.1 r' i' k' h' h7', fun k' hk' => by rw [mup_k (fun e => hk' (by rw [e]; exact hk))]; exact h.2 k' hk'⟩
theorem fq_of {R : List Nat} {σ σ' : mS} (h : fr R σ σ') (h7 : 71 ∉ R) : fq R [] σ σ' := ⟨fun r i k hr _ => h r i k hr, fun k _ => h 71 0 k h7⟩
/-- the reference bears the group that the turns make -/
def RGr (σ : mS) (M : Nat → tn) (m : Nat) : Prop := RB σ (bfs M m) ∧ RM σ M m
theorem RGr_M {σ : mS} {M : Nat → tn} {m : Nat} (h : RGr σ M m) : ∀ t, t < m → tok (M t) := fun t ht => (h.2.2.2 t ht).2
theorem RGr_G {σ : mS} {M : Nat → tn} {m : Nat} (h : RGr σ M m) : RG σ (bE (bfs M m)) (bfs M m).length := RG_of_RB h.1 (RGr_M h)
theorem RGr_fq {σ σ' : mS} {M : Nat → tn} {m : Nat} {R K : List Nat} (h : RGr σ M m) (hf : fq R K σ σ') (hR : ∀ r, r ∈ [74, 75, 76, 77] → r ∉ R) (hK : ∀ k, k ∈ [6, 7] → k ∉ K) : RGr σ' M m := by
  obtain ⟨⟨a1, a2, a3⟩, b1, b2, b3⟩ := h
  refine ⟨⟨by rw [hf.2 6 (hK 6 (by decide))]; exact a1, fun k hk => ?_, fun k h0 hk => ?_⟩, by rw [hf.2 7 (hK 7 (by decide))]; exact b1, b2, fun t ht => ?_⟩
  · unfold elR
    rw [hf.1 74 _ _ (hR 74 (by decide)) (by decide), hf.1 74 _ _ (hR 74 (by decide)) (by decide), hf.1 74 _ _ (hR 74 (by decide)) (by decide)]
    exact a2 k hk
  · rw [hf.1 75 _ _ (hR 75 (by decide)) (by decide), hf.1 76 _ _ (hR 76 (by decide)) (by decide)]
    exact a3 k h0 hk
  · rw [hf.1 77 _ _ (hR 77 (by decide)) (by decide), hf.1 77 _ _ (hR 77 (by decide)) (by decide), hf.1 77 _ _ (hR 77 (by decide)) (by decide)]
    exact b3 t ht
theorem RGr_48 {σ : mS} {M : Nat → tn} {m : Nat} (h : RGr σ M m) : (bfs M m).length ≤ 48 := RG_48 (RGr_G h)
/-- row k of the signs is that of choice c -/
def RW (σ : mS) (M : Nat → tn) (m k c : Nat) : Prop := ∀ g, g < (bfs M m).length → σ 79 0 (48 * k + g) = rwc m (bfs M m) c g
theorem vR_bit {s t : Nat} (hs : s < 16) (ht : t < 4) : (o_and (o_shr (s : Int) (t : Int)) 1 = 1 ∧ vR s t = -1) ∨ (¬ o_and (o_shr (s : Int) (t : Int)) 1 = 1 ∧ vR s t = 1) := by
  have h := sv_bits s (List.mem_range.mpr hs) t (List.mem_range.mpr ht)
  unfold vR
  by_cases q : (s >>> t) % 2 = 1
  · rw [decide_eq_true q] at h
    exact Or.inl ⟨of_decide_eq_true h, if_pos q⟩
  · rw [decide_eq_false q] at h
    exact Or.inr ⟨of_decide_eq_false h, if_neg q⟩
theorem X12_sgn_row {N : Nat} {M : Nat → tn} {m s k : Nat} {σ : mS} (hN : 100 ≤ N) (H : RGr σ M m) (hs : s < 2 ^ m) (hk : k < 16) : ∃ σ', L_X12_findSigns_34 N N (s : Int) ((48 * k : Nat) : Int) 1 (mup σ 79 0 (48 * k) 1) = some σ' ∧ fr [79] σ σ' ∧ (∀ q, (q < 48 * k ∨ 48 * k + 48 ≤ q) → σ' 79 0 q = σ 79 0 q) ∧ RW σ' M m k (rev m s) := by
  have h48 := RGr_48 H
  have hm4 := H.2.2.1
  have h16 := pw16 m (List.mem_range.mpr (by omega))
  have hM := RGr_M H
  have hGn := Gn_bfs hM
  have hl0 := (bfs_ok hM).1.1
  obtain ⟨-, -, hrev⟩ := rev_ok m (List.mem_range.mpr (by omega)) s (List.mem_range.mpr hs)
  have lp := lp_up (L := fun f g s1 => L_X12_findSigns_34 N f (s : Int) ((48 * k : Nat) : Int) g s1) (I := fun i s1 => 0 < i ∧ fr [79] σ s1 ∧ (∀ q, (q < 48 * k ∨ 48 * k + 48 ≤ q) → s1 79 0 q = σ 79 0 q) ∧ ∀ g, g < i → s1 79 0 (48 * k + g) = rwc m (bfs M m) (rev m s) g)
    (P := fun s1 => fr [79] σ s1 ∧ (∀ q, (q < 48 * k ∨ 48 * k + 48 ≤ q) → s1 79 0 q = σ 79 0 q) ∧ RW s1 M m k (rev m s)) (bfs M m).length (fun f i s1 hi hI => by
      obtain ⟨h0, h1, h2, h3⟩ := hI
      left
      have Hs := RGr_fq H (fq_of h1 (by decide)) (by decide) (by decide)
      obtain ⟨q1, q2, q3⟩ := hGn i h0 hi
      obtain ⟨m1, m2⟩ := Hs.1.2.2 i h0 hi
      have m1' : s1 75 0 i = ((bF (bfs M m) i : Nat) : Int) := m1
      have m2' : s1 76 0 i = ((bB (bfs M m) i : Nat) : Int) := m2
      have e1 := rwv_pm hGn (vC_pm m (rev m s)) _ (show bF (bfs M m) i < (bfs M m).length by omega)
      have e2 := vC_pm m (rev m s) _ q2
      have e3 := hrev _ (List.mem_range.mpr q2)
      have x1 : mw (((48 * k : Nat) : Int) + ((bF (bfs M m) i : Nat) : Int)) = ((48 * k + bF (bfs M m) i : Nat) : Int) := by rw [mw_id (by omega) (by omega)]; omega
      have x2 : mw (((48 * k : Nat) : Int) + (i : Int)) = ((48 * k + i : Nat) : Int) := by rw [mw_id (by omega) (by omega)]; omega
      have hv : rwc m (bfs M m) (rev m s) i = rwc m (bfs M m) (rev m s) (bF (bfs M m) i) * vC m (rev m s) (bB (bfs M m) i) := rwv_s hGn _ h0 hi
      have hmw : mw (rwc m (bfs M m) (rev m s) (bF (bfs M m) i) * vC m (rev m s) (bB (bfs M m) i)) = rwc m (bfs M m) (rev m s) i := by rw [hv]; exact mw_pm e1 e2
      have fin : ∃ s', L_X12_findSigns_34 N f (s : Int) ((48 * k : Nat) : Int) ((i + 1 : Nat) : Int) (mup s1 79 0 (48 * k + i) (rwc m (bfs M m) (rev m s) i)) = L_X12_findSigns_34 N f (s : Int) ((48 * k : Nat) : Int) ((i + 1 : Nat) : Int) s' ∧ 0 < i + 1 ∧ fr [79] σ s' ∧ (∀ q, (q < 48 * k ∨ 48 * k + 48 ≤ q) → s' 79 0 q = σ 79 0 q) ∧ ∀ g, g < i + 1 → s' 79 0 (48 * k + g) = rwc m (bfs M m) (rev m s) g := by
        refine ⟨_, rfl, by omega, fr_mup h1 (by decide), fun q hq => by rw [mup_k (by omega)]; exact h2 q hq, fun g hg => ?_⟩
        by_cases eg : g = i
        · subst eg; rw [mup_s]
        · rw [mup_k (by omega)]; exact h3 g (by omega)
      try dsimp only
      rw [L_X12_findSigns_34_s, Hs.1.1, if_neg (by omega), tN, m1', m2', x1, x2, if_pos (by omega), mw_s (by omega), tN, tN, h3 _ q1]
      rcases vR_bit (s := s) (t := bB (bfs M m) i) (by omega) (by omega) with ⟨b1, b2⟩ | ⟨b1, b2⟩
      · rw [if_pos b1, if_pos (by omega), ← b2, e3, hmw]
        exact fin
      · rw [if_neg b1, if_pos (by omega), ← b2, e3, hmw]
        exact fin) (fun f s1 hI => by
      obtain ⟨h0, h1, h2, h3⟩ := hI
      have Hs := RGr_fq H (fq_of h1 (by decide)) (by decide) (by decide)
      refine ⟨s1, ?_, h1, h2, h3⟩
      try dsimp only
      rw [L_X12_findSigns_34_s, Hs.1.1, if_pos (by omega)]) N 1 (mup σ 79 0 (48 * k) 1) (by omega) (by omega) ⟨by omega, fr_mup fr_rfl (by decide), fun q hq => mup_k (by omega), fun g hg => by
        have : g = 0 := by omega
        subst this
        rw [Nat.add_zero, mup_s]; rfl⟩
  obtain ⟨s1, e, h1, h2, h3⟩ := lp
  exact ⟨s1, e, h1, h2, h3⟩
theorem X12_sgn_in {N : Nat} {M : Nat → tn} {m s k t : Nat} {σ : mS} (hN : 100 ≤ N) (H : RGr σ M m) (hs : s < 2 ^ m) (hk : k < 16) (hr : RW σ M m k (rev m s)) (ht : t < m) : L_X12_findSigns_147 N N (s : Int) ((48 * k : Nat) : Int) 1 (t : Int) (mel M (bfs M m) t : Int) 0 σ = some (bi (alb (fun g => decide (rwv (bfs M m) (vC m (rev m s)) (gm (bE (bfs M m)) (bfs M m).length g (mel M (bfs M m) t)) = rwv (bfs M m) (vC m (rev m s)) g * vC m (rev m s) t)) (bfs M m).length), σ) := by
  have h48 := RGr_48 H
  have hm4 := H.2.2.1
  have h16 := pw16 m (List.mem_range.mpr (by omega))
  have hM := RGr_M H
  have hGn := Gn_bfs hM
  have hGP := GP_bfs hM
  have hn := H.1.1
  obtain ⟨-, -, hrev⟩ := rev_ok m (List.mem_range.mpr (by omega)) s (List.mem_range.mpr hs)
  generalize hp : (fun g => decide (rwv (bfs M m) (vC m (rev m s)) (gm (bE (bfs M m)) (bfs M m).length g (mel M (bfs M m) t)) = rwv (bfs M m) (vC m (rev m s)) g * vC m (rev m s) t)) = p
  obtain ⟨o, e, h⟩ := lp2_0 (L := fun f g a s1 => L_X12_findSigns_147 N f (s : Int) ((48 * k : Nat) : Int) a (t : Int) (mel M (bfs M m) t : Int) g s1) (I := fun i a s1 => s1 = σ ∧ a = bi (alb p i)) (P := fun o => o = (bi (alb p (bfs M m).length), σ)) (bfs M m).length (fun f i a s1 hi hI => by
      obtain ⟨h1, h2⟩ := hI
      subst h1
      subst h2
      try dsimp only
      cases hb : alb p i with
      | false =>
        right
        rw [L_X12_findSigns_147_s, hn, if_neg (by omega), if_pos bi_f]
        refine ⟨_, rfl, ?_⟩
        have : alb p (bfs M m).length = false := by
          cases q : alb p (bfs M m).length with
          | false => rfl
          | true => rw [alb_of (fun x hx => alb_ok q x (by omega))] at hb; exact hb
        rw [this]
      | true =>
        left
        have hgm := (gm_ok hGP hi (Hm_bfs hM t ht).1).1
        have e1 := rwv_pm hGn (vC_pm m (rev m s)) i hi
        have e2 := vC_pm m (rev m s) t ht
        have e3 := hrev _ (List.mem_range.mpr ht)
        have x1 : mw (((48 * k : Nat) : Int) + ((gm (bE (bfs M m)) (bfs M m).length i (mel M (bfs M m) t) : Nat) : Int)) = ((48 * k + gm (bE (bfs M m)) (bfs M m).length i (mel M (bfs M m) t) : Nat) : Int) := by rw [mw_id (by omega) (by omega)]; omega
        have x2 : mw (((48 * k : Nat) : Int) + (i : Int)) = ((48 * k + i : Nat) : Int) := by rw [mw_id (by omega) (by omega)]; omega
        have hmw : mw (rwc m (bfs M m) (rev m s) i * vC m (rev m s) t) = rwc m (bfs M m) (rev m s) i * vC m (rev m s) t := mw_pm e1 e2
        have fin : ∃ a' s', (if rwc m (bfs M m) (rev m s) (gm (bE (bfs M m)) (bfs M m).length i (mel M (bfs M m) t)) = rwc m (bfs M m) (rev m s) i * vC m (rev m s) t then L_X12_findSigns_147 N f (s : Int) ((48 * k : Nat) : Int) 1 (t : Int) (mel M (bfs M m) t : Int) ((i + 1 : Nat) : Int) s1 else L_X12_findSigns_147 N f (s : Int) ((48 * k : Nat) : Int) 0 (t : Int) (mel M (bfs M m) t : Int) ((i + 1 : Nat) : Int) s1) = L_X12_findSigns_147 N f (s : Int) ((48 * k : Nat) : Int) a' (t : Int) (mel M (bfs M m) t : Int) ((i + 1 : Nat) : Int) s' ∧ s' = s1 ∧ a' = bi (alb p (i + 1)) := by
          by_cases q : rwc m (bfs M m) (rev m s) (gm (bE (bfs M m)) (bfs M m).length i (mel M (bfs M m) t)) = rwc m (bfs M m) (rev m s) i * vC m (rev m s) t
          · rw [if_pos q]
            refine ⟨_, _, rfl, rfl, ?_⟩
            rw [alb_s, hb, show p i = true from by rw [← hp]; exact decide_eq_true q]; rfl
          · rw [if_neg q]
            refine ⟨_, _, rfl, rfl, ?_⟩
            rw [alb_s, hb, show p i = false from by rw [← hp]; exact decide_eq_false q]; rfl
        rw [L_X12_findSigns_147_s, hn, if_neg (by omega), if_neg (by decide), X12_product_eq hN (RGr_G H) hi (Hm_bfs hM t ht).1, Option.bind_some]
        try dsimp only
        rw [x1, x2, if_pos (by omega), mw_s (by omega), tN, tN, hr _ hgm, hr i hi]
        rcases vR_bit (s := s) (t := t) (by omega) (by omega) with ⟨b1, b2⟩ | ⟨b1, b2⟩
        · rw [if_pos b1, ← b2, e3, hmw]; exact fin
        · have hm1 : mw (rwc m (bfs M m) (rev m s) i * 1) = rwc m (bfs M m) (rev m s) i * vC m (rev m s) t := by
            have hv1 : vC m (rev m s) t = 1 := by rw [← e3, b2]
            rw [hv1] at hmw ⊢
            exact hmw
          rw [if_neg b1, hm1]; exact fin) (fun f a s1 hI => by
      obtain ⟨h1, h2⟩ := hI
      subst h1
      subst h2
      refine ⟨_, ?_, rfl⟩
      try dsimp only
      rw [L_X12_findSigns_147_s, hn, if_pos (by omega)]) (f := N) (a := 1) (s := σ) (by omega) ⟨rfl, rfl⟩
  try dsimp only at e
  rw [e, h]
theorem X12_sgn_ok {N : Nat} {M : Nat → tn} {m s k : Nat} {σ : mS} (hN : 100 ≤ N) (H : RGr σ M m) (hs : s < 2 ^ m) (hk : k < 16) (hr : RW σ M m k (rev m s)) : L_X12_findSigns_94 N N (s : Int) ((48 * k : Nat) : Int) 1 0 σ = some (bi (vlb M m (bfs M m) (vC m (rev m s))), σ) := by
  have h48 := RGr_48 H
  have hm4 := H.2.2.1
  have hM := RGr_M H
  have hGP := GP_bfs hM
  have hn7 := H.2.1
  generalize hp : (fun t => alb (fun g => decide (rwv (bfs M m) (vC m (rev m s)) (gm (bE (bfs M m)) (bfs M m).length g (mel M (bfs M m) t)) = rwv (bfs M m) (vC m (rev m s)) g * vC m (rev m s) t)) (bfs M m).length) = p
  have hvl : vlb M m (bfs M m) (vC m (rev m s)) = alb p m := by rw [← hp]; rfl
  rw [hvl]
  obtain ⟨o, e, h⟩ := lp2_0 (L := fun f t a s1 => L_X12_findSigns_94 N f (s : Int) ((48 * k : Nat) : Int) a t s1) (I := fun i a s1 => s1 = σ ∧ a = bi (alb p i)) (P := fun o => o = (bi (alb p m), σ)) m (fun f i a s1 hi hI => by
      obtain ⟨h1, h2⟩ := hI
      subst h1
      subst h2
      try dsimp only
      cases hb : alb p i with
      | false =>
        right
        rw [L_X12_findSigns_94_s, hn7, if_neg (by omega), if_pos bi_f]
        refine ⟨_, rfl, ?_⟩
        have : alb p m = false := by
          cases q : alb p m with
          | false => rfl
          | true => rw [alb_of (fun x hx => alb_ok q x (by omega))] at hb; exact hb
        rw [this]
      | true =>
        left
        obtain ⟨hMt, hMok⟩ := H.2.2.2 i hi
        have d1 : mw (3 * (i : Int)) = 3 * (i : Int) := mw_id (by omega) (by omega)
        have d2 : mw (3 * (i : Int) + 1) = 3 * (i : Int) + 1 := mw_id (by omega) (by omega)
        have d3 : mw (3 * (i : Int) + 2) = 3 * (i : Int) + 2 := mw_id (by omega) (by omega)
        have u1 : (3 * (i : Int)).toNat = 3 * i := by omega
        have u2 : (3 * (i : Int) + 1).toNat = 3 * i + 1 := by omega
        have u3 : (3 * (i : Int) + 2).toNat = 3 * i + 2 := by omega
        have m1 : s1 77 0 (3 * i) = (M i).1 := congrArg Prod.fst hMt
        have m2 : s1 77 0 (3 * i + 1) = (M i).2.1 := congrArg (fun x : tn => x.2.1) hMt
        have m3 : s1 77 0 (3 * i + 2) = (M i).2.2 := congrArg (fun x : tn => x.2.2) hMt
        obtain ⟨t1, t2⟩ := Hm_bfs hM i hi
        have hfd : f_X12_find N (M i).1 (M i).2.1 (M i).2.2 s1 = some ((mel M (bfs M m) i : Int), s1) := by
          rw [X12_find_eq (t := M i) hN H.1.1 h48, fnd_cg _ 0 (E' := bE (bfs M m)) (fun j _ hj => H.1.2.1 j (by omega)), ← t2, gix_fnd hGP t1]
        rw [L_X12_findSigns_94_s, hn7, if_neg (by omega), if_neg (by decide), d1, d2, d3, if_pos (by omega), u1, u2, u3, m1, m2, m3, hfd, Option.bind_some]
        try dsimp only
        rw [show bi true = 1 from rfl, X12_sgn_in hN H hs hk hr hi, Option.bind_some, mw_s (by omega)]
        try dsimp only
        refine ⟨_, _, rfl, rfl, ?_⟩
        rw [alb_s, hb, ← hp]
        rfl) (fun f a s1 hI => by
      obtain ⟨h1, h2⟩ := hI
      subst h1
      subst h2
      refine ⟨_, ?_, rfl⟩
      try dsimp only
      rw [L_X12_findSigns_94_s, hn7, if_pos (by omega)]) (f := N) (a := 1) (s := σ) (by omega) ⟨rfl, rfl⟩
  try dsimp only at e
  rw [e, h]
