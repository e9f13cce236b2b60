/-! the reference lists PRODUCTS -/
/-- with FEW i n times, n from c down to 0 -/
def tlg (ds : Nat → Nat) (m i d : Nat) : Nat → List (List Nat)
  | 0 => enl ds m (i + 1) d
  | c + 1 => (enl ds m (i + 1) (d - (c + 1) * ds i)).map (fun l => List.replicate (c + 1) i ++ l) ++ tlg ds m i d c
theorem tlg_s (ds : Nat → Nat) (m i d c : Nat) : tlg ds m i d (c + 1) = (enl ds m (i + 1) (d - (c + 1) * ds i)).map (fun l => List.replicate (c + 1) i ++ l) ++ tlg ds m i d c := rfl
theorem tlg_up {ds : Nat → Nat} {m i d : Nat} : ∀ c, (c + 1) * ds i ≤ d → tlg ds m i d (c + 1) = (tlg ds m i (d - ds i) c).map (fun l => i :: l) ++ enl ds m (i + 1) d
  | 0, h => by
    rw [tlg_s, show (0 + 1) * ds i = ds i from by omega]
    rfl
  | c + 1, h => by
    have hm : (c + 1 + 1) * ds i = (c + 1) * ds i + ds i := Nat.succ_mul _ _
    rw [tlg_s, tlg_up c (by omega), tlg_s, List.map_append, List.append_assoc, List.map_map, show d - (c + 1 + 1) * ds i = d - ds i - (c + 1) * ds i from by omega]
    rfl
theorem tlg_enl {ds : Nat → Nat} {m i : Nat} (hd : ∀ i, i < m → 1 ≤ ds i) (hi : i < m) : ∀ d, enl ds m i d = tlg ds m i d (d / ds i) := by
  intro d
  induction d using Nat.strongRecOn with
  | ind d ih =>
    have h1 := hd i hi
    rw [enl_s hd hi]
    by_cases q : ds i ≤ d
    · have e : d / ds i = (d - ds i) / ds i + 1 := by
        rw [← Nat.add_div_right _ (by omega), show d - ds i + ds i = d from by omega]
      rw [if_pos q, ih (d - ds i) (by omega), e, tlg_up _ (by
        rw [← e]
        exact Nat.div_mul_le_self d (ds i))]
    · rw [if_neg q, List.nil_append, Nat.div_eq_of_lt (by omega)]
      rfl
/-- behind what was told: X more, with u of the FEW ahead of i -/
def EMt (σ σ' : mS) (P i : Nat) (u : Nat → Int) (X : List (List Nat)) : Prop := σ' 71 0 26 = ((P + X.length : Nat) : Int) ∧ (∀ t, t < X.length → ∀ k, k < 40 → σ' 85 0 (40 * (P + t) + k) = if k < i then u k else ((X.getD t []).count k : Int)) ∧ (∀ c, c < 40 * P → σ' 85 0 c = σ 85 0 c) ∧ fq [85, 88] [26] σ σ'
theorem EMt_nil {σ : mS} {P i : Nat} {u : Nat → Int} (h : σ 71 0 26 = (P : Int)) : EMt σ σ P i u [] := ⟨h, fun t ht => absurd ht (Nat.not_lt_zero _), fun _ _ => rfl, fq_rfl⟩
theorem EMt_app {σ σ1 σ2 : mS} {P i : Nat} {u : Nat → Int} {X Y : List (List Nat)} (h1 : EMt σ σ1 P i u X) (h2 : EMt σ1 σ2 (P + X.length) i u Y) : EMt σ σ2 P i u (X ++ Y) := by
  obtain ⟨a1, a2, a3, a4⟩ := h1
  obtain ⟨b1, b2, b3, b4⟩ := h2
  refine ⟨by rw [b1, List.length_append]; omega, fun t ht k hk => ?_, fun c hc => (b3 c (by omega)).trans (a3 c hc), fq_trans a4 b4⟩
  by_cases e : t < X.length
  · rw [getD_ap e, b3 _ (by omega)]
    exact a2 t e k hk
  · obtain ⟨t', rfl⟩ : ∃ t', t = X.length + t' := ⟨t - X.length, by omega⟩
    have := b2 t' (by rw [List.length_append] at ht; omega) k hk
    rw [show 40 * (P + X.length + t') = 40 * (P + (X.length + t')) from by omega] at this
    rw [this, List.getD_eq_getElem?_getD (l := X ++ Y), List.getElem?_append_right (by omega), show X.length + t' - X.length = t' from by omega, ← List.getD_eq_getElem?_getD]
def RFd (σ : mS) (L : List (Nat × Nat)) : Prop := σ 71 0 19 = (L.length : Int) ∧ ∀ i, i < L.length → σ 83 0 i = (fwd L i : Int)
theorem RFd_fq {σ σ' : mS} {L : List (Nat × Nat)} {R K : List Nat} (h : RFd σ L) (hf : fq R K σ σ') (h83 : 83 ∉ R) (h19 : 19 ∉ K) : RFd σ' L := ⟨by rw [hf.2 19 h19]; exact h.1, fun i hi => by rw [hf.1 83 _ _ h83 (by decide)]; exact h.2 i hi⟩
theorem X12_goes_put {N P : Nat} {cal : Int → Int → mS → Option mS} {σ : mS} (hN : 1000 ≤ N) (hP : P < 400) (h26 : σ 71 0 26 = (P : Int)) : ∃ σ', L_X12_goes_15 N cal N 0 σ = some σ' ∧ fr [85] σ σ' ∧ (∀ k, k < 40 → σ' 85 0 (40 * P + k) = σ 88 0 k) ∧ ∀ c, c < 40 * P → σ' 85 0 c = σ 85 0 c := by
  obtain ⟨s, e, h1, h2, h3⟩ := lp_0 (L := fun g k s => L_X12_goes_15 N cal g k s) (I := fun k s => fr [85] σ s ∧ (∀ k', k' < k → s 85 0 (40 * P + k') = σ 88 0 k') ∧ ∀ c, c < 40 * P → s 85 0 c = σ 85 0 c) (P := fun s => fr [85] σ s ∧ (∀ k', k' < 40 → s 85 0 (40 * P + k') = σ 88 0 k') ∧ ∀ c, c < 40 * P → s 85 0 c = σ 85 0 c) 40 (fun g k s hk hI => by
      obtain ⟨h1, h2, h3⟩ := hI
      left
      have x1 : mw (mw (40 * (P : Int)) + (k : Int)) = ((40 * P + k : Nat) : Int) := by rw [show mw (40 * (P : Int)) = 40 * (P : Int) from mw_id (by omega) (by omega), mw_id (by omega) (by omega)]; omega
      try dsimp only
      rw [L_X12_goes_15_s, if_neg (by omega), h1 71 _ _ (by decide), h26, x1, if_pos (by omega), tN, tN, h1 88 _ _ (by decide), mw_s (by omega)]
      refine ⟨_, rfl, fr_mup h1 (by decide), fun k' hk' => ?_, fun c hc => by rw [mup_k (by omega)]; exact h3 c hc⟩
      by_cases ek : k' = k
      · subst ek; rw [mup_s]
      · rw [mup_k (by omega)]; exact h2 k' (by omega)) (fun g s hI => by
      refine ⟨s, ?_, hI⟩
      try dsimp only
      rw [L_X12_goes_15_s, if_pos (by omega)]) (f := N) (s := σ) (by omega) ⟨fr_rfl, fun k' h => absurd h (Nat.not_lt_zero _), fun _ _ => rfl⟩
  exact ⟨s, e, h1, h2, h3⟩
theorem X12_goes_eq {N : Nat} {L : List (Nat × Nat)} (hN : 1000 ≤ N) (hL : LOK L) (h6 : L.length ≤ 6) : ∀ (m D i d P : Nat) (u : Nat → Int) (σ : mS), i + m = L.length → m < D → d ≤ 6 → RFd σ L → σ 71 0 26 = (P : Int) → P + (enl (fwd L) L.length i d).length ≤ 400 → (∀ k, k < 40 → σ 88 0 k = u k) → (∀ k, i ≤ k → k < 40 → u k = 0) →
    ∃ σ', F_X12_goes N D (i : Int) (d : Int) σ = some σ' ∧ EMt σ σ' P i u (enl (fwd L) L.length i d) ∧ ∀ k, k < 40 → σ' 88 0 k = u k := by
  intro m
  induction m with
  | zero =>
    intro D i d P u σ hi hD hd hR h26 hP hu hz
    obtain ⟨D, rfl⟩ : ∃ D', D = D' + 1 := ⟨D - 1, by omega⟩
    rw [F_X12_goes_s]
    unfold g_X12_goes
    rw [hR.1, if_pos (by omega)]
    rw [enl_n (show L.length ≤ i by omega)] at hP ⊢
    by_cases e : d = 0
    · subst e
      rw [if_pos rfl] at hP ⊢
      rw [if_pos (by omega)]
      obtain ⟨s1, a1, a2, a3, a4⟩ := X12_goes_put (N := N) (cal := F_X12_goes N D) hN (show P < 400 by have := hP; simp at this; omega) h26
      rw [a1, Option.bind_some, a2 71 _ _ (by decide), h26, mw_s (by have := hP; simp at this; omega)]
      refine ⟨_, rfl, ⟨mup_s _ _ _ _ _, fun t ht k hk => ?_, fun c hc => by rw [mup_r (by decide)]; exact a4 c hc, fq_mupk (fq_sub (fq_of a2 (by decide)) (fun r hr => by simp at hr ⊢; omega) (fun k hk => absurd hk (by simp))) (by decide)⟩, fun k hk => by rw [mup_r (by decide), a2 88 _ _ (by decide)]; exact hu k hk⟩
      have : t = 0 := by simpa using ht
      subst this
      rw [mup_r (by decide), Nat.add_zero, a3 k hk, hu k hk]
      by_cases q : k < i
      · rw [if_pos q]
      · rw [if_neg q, hz k (by omega) hk]
        rfl
    · rw [if_neg e] at hP ⊢
      rw [if_neg (by omega)]
      exact ⟨σ, rfl, EMt_nil h26, hu⟩
  | succ m ih =>
    intro D i d P u σ hi hD hd hR h26 hP hu hz
    obtain ⟨D, rfl⟩ : ∃ D', D = D' + 1 := ⟨D - 1, by omega⟩
    have hil : i < L.length := by omega
    have hO := hL i hil
    have hdv : d / fwd L i ≤ 6 := Nat.le_trans (Nat.div_le_self _ _) hd
    have hdm := Nat.div_mul_le_self d (fwd L i)
    rw [tlg_enl (fun i hi => (hL i hi).1) hil] at hP ⊢
    -- the loop over how often
    have lp : ∀ (c fu P' : Nat) (s : mS), c + 1 < fu → c * fwd L i ≤ d → fq [85, 88] [26] σ s → s 71 0 26 = (P' : Int) → P' + (tlg (fwd L) L.length i d c).length ≤ 400 → (∀ k, k < 40 → k ≠ i → s 88 0 k = u k) → ∃ s', L_X12_goes_67 N (F_X12_goes N D) fu (i : Int) (d : Int) (c : Int) s = some s' ∧ EMt s s' P' i u (tlg (fwd L) L.length i d c) ∧ ∀ k, k < 40 → k ≠ i → s' 88 0 k = u k := by
      intro c
      induction c with
      | zero =>
        intro fu P' s hfu hcd hf h26' hP' hu'
        obtain ⟨fu, rfl⟩ : ∃ f', fu = f' + 1 + 1 := ⟨fu - 2, by omega⟩
        have hR1 := RFd_fq hR hf (by decide) (by decide)
        have hmu : fq [85, 88] [26] s (mup s 88 0 i 0) := fq_mup fq_rfl (by decide) (by decide)
        obtain ⟨s1, r1, r2, r3⟩ := ih D (i + 1) d P' (fun k => if k = i then 0 else u k) (mup s 88 0 i 0) (by omega) (by omega) hd (RFd_fq hR1 hmu (by decide) (by decide)) (by rw [mup_r (by decide)]; exact h26') hP' (fun k hk => by
          by_cases e : k = i
          · subst e; rw [mup_s, if_pos rfl]
          · rw [mup_k e, if_neg e]; exact hu' k hk e) (fun k h1 h2 => by rw [if_neg (by omega)]; exact hz k (by omega) h2)
        rw [L_X12_goes_67_s, if_neg (by omega), if_pos (by omega), tN, mw_s (by omega), show mw ((d : Int) - mw (((0 : Nat) : Int) * s 83 0 i)) = (d : Int) from (by rw [show ((0 : Nat) : Int) * s 83 0 i = 0 from by simp, show mw 0 = 0 from by decide, Int.sub_zero]; exact mw_id (by omega) (by omega)), show ((0 : Nat) : Int) = 0 from rfl, r1, Option.bind_some, L_X12_goes_67_s, if_pos (by decide)]
        refine ⟨s1, rfl, ⟨r2.1, fun t ht k hk => ?_, fun c hc => by rw [r2.2.2.1 c hc, mup_r (by decide)], fq_trans hmu r2.2.2.2⟩, fun k hk hne => by rw [r3 k hk, if_neg hne]⟩
        rw [r2.2.1 t ht k hk]
        by_cases q : k < i
        · rw [if_pos (by omega), if_pos q]
          show (if k = i then (0 : Int) else u k) = u k
          rw [if_neg (by omega)]
        · rw [if_neg q]
          by_cases q2 : k = i
          · subst q2
            rw [if_pos (by omega)]
            show (if k = k then (0 : Int) else u k) = _
            rw [if_pos rfl]
            have ht' : t < (enl (fwd L) L.length (k + 1) d).length := ht
            have hm : (enl (fwd L) L.length (k + 1) d).getD t [] ∈ enl (fwd L) L.length (k + 1) d := by
              rw [List.getD_eq_getElem?_getD, List.getElem?_eq_getElem ht']
              exact List.getElem_mem ht'
            have := (enl_mem hL (k + 1) d _ hm).2
            show (0 : Int) = ((((enl (fwd L) L.length (k + 1) d).getD t []).count k : Nat) : Int)
            rw [List.count_eq_zero_of_not_mem (fun z => by have := this k z; omega)]
            rfl
          · rw [if_neg (by omega)]
            rfl
      | succ c ihc =>
        intro fu P' s hfu hcd hf h26' hP' hu'
        obtain ⟨fu, rfl⟩ : ∃ f', fu = f' + 1 := ⟨fu - 1, by omega⟩
        have hR1 := RFd_fq hR hf (by decide) (by decide)
        have hc6 : c + 1 ≤ 6 := by
          have : (c + 1) * 1 ≤ (c + 1) * fwd L i := Nat.mul_le_mul_left _ hO.1
          omega
        have hmu : fq [85, 88] [26] s (mup s 88 0 i ((c + 1 : Nat) : Int)) := fq_mup fq_rfl (by decide) (by decide)
        rw [tlg_s, List.length_append, List.length_map] at hP'
        obtain ⟨s1, r1, r2, r3⟩ := ih D (i + 1) (d - (c + 1) * fwd L i) P' (fun k => if k = i then ((c + 1 : Nat) : Int) else u k) (mup s 88 0 i ((c + 1 : Nat) : Int)) (by omega) (by omega) (by omega) (RFd_fq hR1 hmu (by decide) (by decide)) (by rw [mup_r (by decide)]; exact h26') (by omega) (fun k hk => by
          by_cases e : k = i
          · subst e; rw [mup_s, if_pos rfl]
          · rw [mup_k e, if_neg e]; exact hu' k hk e) (fun k h1 h2 => by rw [if_neg (by omega)]; exact hz k (by omega) h2)
        have f1 := fq_trans hf (fq_trans hmu r2.2.2.2)
        have hcm : c * fwd L i ≤ (c + 1) * fwd L i := Nat.mul_le_mul_right _ (by omega)
        obtain ⟨s2, t1, t2, t3⟩ := ihc fu (P' + (enl (fwd L) L.length (i + 1) (d - (c + 1) * fwd L i)).length) s1 (by omega) (by omega) f1 r2.1 (by omega) (fun k hk hne => by rw [r3 k hk, if_neg hne])
        have x1 : mw ((d : Int) - mw (((c + 1 : Nat) : Int) * (fwd L i : Int))) = ((d - (c + 1) * fwd L i : Nat) : Int) := by
          have e1 : ((c + 1 : Nat) : Int) * (fwd L i : Int) = (((c + 1) * fwd L i : Nat) : Int) := by rw [Int.natCast_mul]
          rw [e1, mw_id (z := (((c + 1) * fwd L i : Nat) : Int)) (by omega) (by omega), mw_id (by omega) (by omega)]
          omega
        rw [L_X12_goes_67_s, if_neg (by omega), if_pos (by omega), tN, mw_s (by omega), hR1.2 i hil, x1, r1, Option.bind_some, show mw (((c + 1 : Nat) : Int) + (-1)) = (c : Int) from (by rw [mw_id (by omega) (by omega)]; omega), t1]
        have hX : EMt s s1 P' i u ((enl (fwd L) L.length (i + 1) (d - (c + 1) * fwd L i)).map (fun l => List.replicate (c + 1) i ++ l)) := by
          refine ⟨by rw [r2.1, List.length_map], fun t ht k hk => ?_, fun c' hc' => by rw [r2.2.2.1 c' hc', mup_r (by decide)], fq_trans hmu r2.2.2.2⟩
          rw [List.length_map] at ht
          rw [r2.2.1 t ht k hk]
          have hm : (enl (fwd L) L.length (i + 1) (d - (c + 1) * fwd L i)).getD t [] ∈ enl (fwd L) L.length (i + 1) (d - (c + 1) * fwd L i) := by
            rw [List.getD_eq_getElem?_getD, List.getElem?_eq_getElem ht]
            exact List.getElem_mem ht
          have hge := (enl_mem hL (i + 1) (d - (c + 1) * fwd L i) _ hm).2
          have hgd : ((enl (fwd L) L.length (i + 1) (d - (c + 1) * fwd L i)).map (fun l => List.replicate (c + 1) i ++ l)).getD t [] = List.replicate (c + 1) i ++ (enl (fwd L) L.length (i + 1) (d - (c + 1) * fwd L i)).getD t [] := by
            rw [List.getD_eq_getElem?_getD, List.getElem?_map, List.getD_eq_getElem?_getD, List.getElem?_eq_getElem ht]
            rfl
          rw [hgd, List.count_append]
          by_cases q : k < i
          · rw [if_pos (by omega), if_pos q]
            show (if k = i then ((c + 1 : Nat) : Int) else u k) = u k
            rw [if_neg (by omega)]
          · rw [if_neg q]
            by_cases q2 : k = i
            · subst q2
              rw [if_pos (by omega)]
              show (if k = k then ((c + 1 : Nat) : Int) else u k) = _
              rw [if_pos rfl, List.count_replicate_self, List.count_eq_zero_of_not_mem (fun z => by have := hge k z; omega)]
            · rw [if_neg (by omega), List.count_replicate, if_neg (by simpa using fun z => q2 z.symm), Nat.zero_add]
        rw [tlg_s]
        exact ⟨s2, rfl, EMt_app hX (by rw [List.length_map]; exact t2), t3⟩
    obtain ⟨s1, a1, a2, a3⟩ := lp (d / fwd L i) N P σ (by omega) hdm fq_rfl h26 hP (fun k hk _ => hu k hk)
    rw [F_X12_goes_s]
    unfold g_X12_goes
    rw [hR.1, if_neg (by omega), tN, hR.2 i hil, if_pos ⟨by omega, by omega⟩, o_div_eq (by omega) (by omega) (by omega) (by omega), show (d : Int) / (fwd L i : Int) = ((d / fwd L i : Nat) : Int) from by omega, a1, Option.bind_some, if_pos (by omega)]
    refine ⟨_, rfl, ⟨by rw [mup_r (by decide)]; exact a2.1, fun t ht k hk => by rw [mup_r (by decide)]; exact a2.2.1 t ht k hk, fun c hc => by rw [mup_r (by decide)]; exact a2.2.2.1 c hc, fq_mup a2.2.2.2 (by decide) (by decide)⟩, fun k hk => ?_⟩
    by_cases e : k = i
    · subst e; rw [mup_s, hz k (Nat.le_refl _) hk]
    · rw [mup_k e]; exact a3 k hk e
/-- PRODUCTS as the reference lists them -/
def ROf (σ : mS) (L : List (Nat × Nat)) (d : Nat) : Prop := σ 71 0 26 = ((prL L d).length : Int) ∧ ∀ q, q < (prL L d).length → ∀ k, k < 40 → σ 85 0 (40 * q + k) = (((prL L d).getD q []).count k : Int)
theorem X12_list_eq {N d : Nat} {L : List (Nat × Nat)} {σ : mS} (hN : 1000 ≤ N) (hL : LOK L) (hB : BD L) (hd : d ≤ 6) (hR : RFd σ L) : ∃ σ', f_X12_list N (d : Int) σ = some σ' ∧ fq [85, 88] [26] σ σ' ∧ ROf σ' L d := by
  have g56 := gmo_le d (List.mem_range.mpr (by omega))
  have hlen := hB.2 d hd
  have f0 : fq [85, 88] [26] σ (mup σ 71 0 26 0) := fq_mupk fq_rfl (by decide)
  obtain ⟨s1, e, h1, h2⟩ := lp_0 (L := fun g k s => L_X12_list_7 N g (d : Int) k s) (I := fun k s => fr [88] (mup σ 71 0 26 0) s ∧ ∀ k', k' < k → s 88 0 k' = 0) (P := fun s => fr [88] (mup σ 71 0 26 0) s ∧ ∀ k', k' < 40 → s 88 0 k' = 0) 40 (fun g k s hk hI => by
      obtain ⟨h1, h2⟩ := hI
      left
      try dsimp only
      rw [L_X12_list_7_s, if_neg (by omega), if_pos (by omega), tN, mw_s (by omega)]
      refine ⟨_, rfl, fr_mup h1 (by decide), fun k' hk' => ?_⟩
      by_cases ek : k' = k
      · subst ek; rw [mup_s]
      · rw [mup_k ek]; exact h2 k' (by omega)) (fun g s hI => by
      refine ⟨s, ?_, hI⟩
      try dsimp only
      rw [L_X12_list_7_s, if_pos (by omega)]) (f := N) (s := mup σ 71 0 26 0) (by omega) ⟨fr_rfl, fun k' h => absurd h (Nat.not_lt_zero _)⟩
  have f1 : fq [85, 88] [26] σ s1 := fq_trans f0 (fq_sub (fq_of h1 (by decide)) (fun r hr => by simp at hr ⊢; omega) (fun k hk => absurd hk (by simp)))
  obtain ⟨s2, r1, r2, r3⟩ := X12_goes_eq (N := N) hN hL hB.1 L.length 10 0 d 0 (fun _ => 0) s1 (by omega) (by have := hB.1; omega) hd (RFd_fq hR f1 (by decide) (by decide)) (by rw [h1 71 _ _ (by decide), mup_s]; rfl) (by
    show 0 + (prL L d).length ≤ 400
    omega) h2 (fun k _ _ => rfl)
  refine ⟨s2, ?_, fq_trans f1 r2.2.2.2, ?_, fun q hq k hk => ?_⟩
  · unfold f_X12_list f_X12_goes
    try dsimp only at e
    rw [e, Option.bind_some, show F_X12_goes N 10 0 (d : Int) s1 = some s2 from r1]
    rfl
  · have := r2.1
    rw [Nat.zero_add] at this
    exact this
  · have := r2.2.1 q hq k hk
    rw [Nat.zero_add, if_neg (Nat.not_lt_zero _)] at this
    exact this
