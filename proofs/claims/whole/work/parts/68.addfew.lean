/-! the class's FEW of a degree -/
theorem enl_mono {ds : Nat → Nat} {n : Nat} (hd : ∀ i, i < n + 1 → 1 ≤ ds i) : ∀ m i d, d + (n - i) ≤ m → i ≤ n → (enl ds n i d).length ≤ (enl ds (n + 1) i d).length := by
  intro m
  induction m with
  | zero =>
    intro i d h1 h2
    have : i = n := by omega
    subst this
    rw [enl_s hd (show i < i + 1 by omega), List.length_append, enl_n (Nat.le_refl _), enl_n (Nat.le_refl _)]
    omega
  | succ m ih =>
    intro i d h1 h2
    by_cases q : i = n
    · subst q
      rw [enl_s hd (show i < i + 1 by omega), List.length_append, enl_n (Nat.le_refl _), enl_n (Nat.le_refl _)]
      omega
    · have h3 := hd i (by omega)
      rw [enl_s hd (show i < n + 1 by omega), enl_s (fun i hi => hd i (by omega)) (show i < n by omega), List.length_append, List.length_append]
      have i1 := ih (i + 1) d (by omega) (by omega)
      by_cases q2 : ds i ≤ d
      · have i2 := ih i (d - ds i) (by omega) (by omega)
        rw [if_pos q2, if_pos q2, List.length_map, List.length_map]
        omega
      · rw [if_neg q2, if_neg q2]
        omega
theorem BD_ap {L : List (Nat × Nat)} {x : Nat × Nat} (h : BD (L ++ [x])) (hO : LOK (L ++ [x])) : BD L := by
  have hl : (L ++ [x]).length = L.length + 1 := by simp
  refine ⟨by have := h.1; omega, fun d hd => Nat.le_trans ?_ (h.2 d hd)⟩
  unfold prL
  rw [hl, ← enl_cg (ds := fwd (L ++ [x])) (ds' := fwd L) (fun i hi => fwd_ap hi)]
  exact enl_mono (fun i hi => (hO i (by omega)).1) _ 0 d (Nat.le_refl _) (Nat.zero_le _)
theorem BD_S {E : Nat → tn} {n d : Nat} {L : List (Nat × Nat)} (h : LOd L d) (h1 : 1 ≤ d) (h6 : d ≤ 6) : ∀ k j, j + k ≤ wd d → BD (fwS E n d L (j + k)) → BD (fwS E n d L j) := by
  intro k
  induction k with
  | zero => intro j _ hb; exact hb
  | succ k ih =>
    intro j hj hb
    refine ih j (by omega) ?_
    rw [show j + (k + 1) = j + k + 1 from by omega] at hb
    by_cases q : inS (FV E n (fwS E n d L (j + k)) d) (frl E n (fwS E n d L (j + k)) d).length (wd d) (mnv E n d (j + k))
    · rw [fwS_in q] at hb; exact hb
    · rw [fwS_out q] at hb
      exact BD_ap hb (LOd_ap (LOd_S h h1 h6 (j + k) (by omega)) h1 h6 (by omega)).1
theorem BD_at {E : Nat → tn} {n : Nat} : ∀ k d, d + k ≤ 6 → BD (fewAt E n (d + k)) → BD (fewAt E n d) := by
  intro k
  induction k with
  | zero => intro d _ h; exact h
  | succ k ih =>
    intro d hd h
    refine ih d (by omega) ?_
    have h2 : BD (fwS E n (d + k + 1) (fewAt E n (d + k)) (wd (d + k + 1))) := h
    have := BD_S (d := d + k + 1) (LOd_up (LOd_at E n (d + k) (by omega)) (show d + k ≤ d + k + 1 by omega)) (by omega) (by omega) (wd (d + k + 1)) 0 (by omega) (by rw [Nat.zero_add]; exact h2)
    exact this
theorem LPq_cg {σ : mS} {E : Nat → tn} {n a : Nat} {L L' : List (Nat × Nat)} (h : LPq σ E n L a (prL L a).length) (hp : prL L' a = prL L a) (hv : ∀ q, q < (prL L a).length → ∀ y, pvv E n L' a q y = pvv E n L a q y) : LPq σ E n L' a (prL L' a).length := by
  obtain ⟨h1, h2, h3, h4, h5⟩ := h
  have hf : frs (pvv E n L' a) (wd a) (prL L' a).length = frs (pvv E n L a) (wd a) (prL L a).length := by
    rw [hp]
    exact frs_cg _ (fun q hq y _ => hv q hq y)
  refine ⟨by rw [hp]; exact h1, Nat.le_refl _, fun p hp' => ?_, by rw [hf]; exact h4, ?_⟩
  · rw [hp] at hp' ⊢
    obtain ⟨c1, c2, c3⟩ := h3 p hp'
    exact ⟨fun y hy => by rw [hv p hp']; exact c1 y hy, c2, c3⟩
  · rw [hf]
    refine LE_V h5 (fun f hf' y hy => ?_)
    try dsimp only
    have hlt := frs_lt (pvv E n L a) (wd a) (prL L a).length f hf'
    rw [hv _ hlt]
    exact em_r _
theorem fill_r49 {N d q : Nat} (hN : 1000 ≤ N) (v : Int) (σ : mS) : f_J7_fill_53178_r49 N (64 * d + q) v σ = some (msv σ 49 (64 * d + q) 6 v) := by
  unfold f_J7_fill_53178_r49
  rw [show (0 : Int) = ((0 : Nat) : Int) from rfl, fill_lp (L := fun f k s => L_J7_fill_53178_r49_5 N f (64 * d + q) v k 6 s) (r := 49) (i := 64 * d + q) (n := 6) (v := v) (fun f k s hk => by
    rw [L_J7_fill_53178_r49_5_s, if_neg (by omega), if_pos (by omega), tN, mw_s (by omega)]) (fun f s => by
    rw [L_J7_fill_53178_r49_5_s, if_pos (by omega)]) 6 0 N σ (by omega) (by omega), Option.bind_some]
  refine congrArg some ?_
  funext r' i' k'
  unfold msv
  by_cases e : r' = 49 ∧ i' = 64 * d + q ∧ k' < 6
  · rw [if_pos e, if_pos ⟨e.1, e.2.1, Nat.zero_le _, e.2.2⟩]
  · rw [if_neg e, if_neg (fun q => e ⟨q.1, q.2.1, q.2.2.2⟩)]
def LRf : List Nat := [41, 42, 43, 44, 46, 47, 49, 51, 52, 53, 55, 57, 58, 59, 60]
theorem FW_ap {σ σ' : mS} {L : List (Nat × Nat)} {d j : Nat} (h : LOd L d) (h1 : 1 ≤ d) (h6 : d ≤ 6) (hj : j < wd d) (hF : FW σ L) (h42 : σ' 42 0 0 = ((L.length + 1 : Nat) : Int)) (h43 : ∀ i, σ' 43 0 i = if i = L.length then (d : Int) else σ 43 0 i) (h44 : ∀ i, σ' 44 0 i = if i = L.length then ((prL L d).length : Int) else σ 44 0 i) : FW σ' (L ++ [(d, fst9 d + j)]) := by
  have hl : (L ++ [(d, fst9 d + j)]).length = L.length + 1 := by simp
  refine ⟨by rw [hl]; exact h42, fun i hi => ?_⟩
  rw [h43, h44]
  by_cases e : i < L.length
  · obtain ⟨a, p, b, c1, c2⟩ := hF.2 i e
    rw [if_neg (by omega), if_neg (by omega), fwd_ap e]
    refine ⟨a, p, b, ?_⟩
    by_cases q : fwd L i = d
    · rw [q] at c1 c2 ⊢
      rw [prL_ap h h1 h6 hj, List.length_append, getD_ap c1]
      exact ⟨by omega, c2⟩
    · have := h.2 i e
      rw [prL_ap2 h h1 h6 hj (by omega)]
      exact ⟨c1, c2⟩
  · have : i = L.length := by omega
    subst this
    rw [if_pos rfl, if_pos rfl]
    have hf : fwd (L ++ [(d, fst9 d + j)]) L.length = d := by unfold fwd; rw [getD_la]
    rw [hf]
    refine ⟨rfl, (prL L d).length, rfl, ?_⟩
    rw [prL_ap h h1 h6 hj, List.length_append, getD_la]
    exact ⟨by simp, rfl⟩
/-- behind a mean that is kept -/
theorem X0_addOne_eq {N n d j : Nat} {E : Nat → tn} {L : List (Nat × Nat)} {σ0 σ : mS} (hN : 1000 ≤ N) (hd : d ≤ 6) (h1 : 1 ≤ d) (hj : j < wd d) (hL : LOd L d) (hB : BD (L ++ [(d, fst9 d + j)])) (hno : ¬ inS (FV E n L d) (frl E n L d).length (wd d) (mnv E n d j))
    (hF : FW σ L) (hC : CLy σ) (h46 : ∀ y, y < wd d → σ 46 0 y = mnv E n d j y) (hP : LPq σ0 E n L d (prL L d).length) (hk : kp d σ0 σ) (hLE : LE σ d ((frl E n L d).length + 1) (fun f => if f = (frl E n L d).length then mnv E n d j else FV E n L d f)) (h53 : σ 53 d (frl E n L d).length = ((prL L d).length : Int)) (h53o : ∀ f, f ≠ (frl E n L d).length → σ 53 d f = σ0 53 d f) :
    ∃ σ', f_X0_addOne N d σ = some σ' ∧ LPq σ' E n (L ++ [(d, fst9 d + j)]) d (prL (L ++ [(d, fst9 d + j)]) d).length ∧ fr LRf σ σ' ∧ CLy σ' ∧ FW σ' (L ++ [(d, fst9 d + j)]) ∧ (∀ a, a ≠ d → agl a σ σ') ∧ ∀ k, k ≠ 0 → σ' 42 0 k = σ 42 0 k := by
  have hl : (L ++ [(d, fst9 d + j)]).length = L.length + 1 := by simp
  have hL5 : L.length < 6 := by have := hB.1; omega
  have hw := (wd_6 d (List.mem_range.mpr (by omega))).1
  have g56 := gmo_le d (List.mem_range.mpr (by omega))
  have hpa := prL_ap hL h1 hd hj
  have hq : (prL L d).length < gmo d := by
    have := hB.2 d hd
    rw [hpa, List.length_append] at this
    simp at this
    omega
  obtain ⟨h473, -, hrows, h53c, -⟩ := hP
  have h473' : σ 47 d 3 = ((prL L d).length : Int) := by rw [hk.2.1 d 3 (by omega)]; exact h473
  obtain ⟨c0, c1, c2⟩ := hC d hd
  generalize hs0 : msv (mcp σ 46 0 0 51 (64 * d + (prL L d).length) 0 (wd d : Int)) 49 (64 * d + (prL L d).length) 6 0 = s0
  have f0 : fr [49, 51] σ s0 := by
    subst hs0
    intro r' i k hr'
    unfold msv
    rw [if_neg (fun z => hr' (by rw [z.1]; decide)), mcp_r (Or.inl (fun z => hr' (by rw [z]; decide)))]
  have n51 : ∀ y, y < wd d → s0 51 (64 * d + (prL L d).length) y = mnv E n d j y := fun y hy => by
    subst hs0
    unfold msv
    rw [if_neg (fun z => absurd z.1 (by decide)), mcp_in hy, h46 y hy]
  have o51 : ∀ r k, r ≠ 64 * d + (prL L d).length → s0 51 r k = σ 51 r k := fun r k hr => by
    subst hs0
    unfold msv
    rw [if_neg (fun z => absurd z.1 (by decide)), mcp_r (Or.inr hr)]
  have n49 : ∀ i, i < 6 → s0 49 (64 * d + (prL L d).length) i = 0 := fun i hi => by
    subst hs0
    unfold msv
    rw [if_pos ⟨rfl, rfl, hi⟩]
  have o49 : ∀ r k, r ≠ 64 * d + (prL L d).length → s0 49 r k = σ 49 r k := fun r k hr => by
    subst hs0
    unfold msv
    rw [if_neg (fun z => hr z.2.1), mcp_r (Or.inl (by decide))]
  have h42 : s0 42 0 0 = (L.length : Int) := by rw [f0 42 _ _ (by decide)]; exact hF.1
  have h473s : s0 47 d 3 = ((prL L d).length : Int) := by rw [f0 47 _ _ (by decide)]; exact h473'
  have h470s : s0 47 d 0 = (d : Int) := by rw [f0 47 _ _ (by decide)]; exact c0
  generalize hs1 : mup (mup (mup (mup (mup (mup s0 49 (64 * d + (prL L d).length) L.length 1) 52 d (prL L d).length (L.length : Int)) 47 d 3 (((prL L d).length + 1 : Nat) : Int)) 43 0 L.length (d : Int)) 44 0 L.length ((prL L d).length : Int)) 42 0 0 ((L.length + 1 : Nat) : Int) = s1
  have f1 : fr [42, 43, 44, 47, 49, 51, 52] σ s1 := by
    subst hs1
    exact fr_mup (fr_mup (fr_mup (fr_mup (fr_mup (fr_mup (fr_sub f0 (fun r hr => by simp at hr ⊢; omega)) (by decide)) (by decide)) (by decide)) (by decide)) (by decide)) (by decide)
  have v47 : ∀ a k, s1 47 a k = if a = d ∧ k = 3 then (((prL L d).length + 1 : Nat) : Int) else σ 47 a k := fun a k => by
    subst hs1
    rw [mup_r (by decide), mup_r (by decide), mup_r (by decide), mup_def]
    by_cases z : a = d ∧ k = 3
    · rw [if_pos ⟨rfl, z⟩, if_pos z]
    · rw [if_neg (fun y => z y.2), if_neg z, mup_r (by decide), mup_r (by decide), f0 47 _ _ (by decide)]
  have v51 : ∀ r k, s1 51 r k = s0 51 r k := fun r k => by subst hs1; rw [mup_r (by decide), mup_r (by decide), mup_r (by decide), mup_r (by decide), mup_r (by decide), mup_r (by decide)]
  have v49 : ∀ r k, s1 49 r k = if r = 64 * d + (prL L d).length ∧ k = L.length then 1 else s0 49 r k := fun r k => by
    subst hs1
    rw [mup_r (by decide), mup_r (by decide), mup_r (by decide), mup_r (by decide), mup_r (by decide), mup_def]
    by_cases z : r = 64 * d + (prL L d).length ∧ k = L.length
    · rw [if_pos ⟨rfl, z⟩, if_pos z]
    · rw [if_neg (fun y => z y.2), if_neg z]
  have v52 : ∀ a k, s1 52 a k = if a = d ∧ k = (prL L d).length then (L.length : Int) else σ 52 a k := fun a k => by
    subst hs1
    rw [mup_r (by decide), mup_r (by decide), mup_r (by decide), mup_r (by decide), mup_def]
    by_cases z : a = d ∧ k = (prL L d).length
    · rw [if_pos ⟨rfl, z⟩, if_pos z]
    · rw [if_neg (fun y => z y.2), if_neg z, mup_r (by decide), f0 52 _ _ (by decide)]
  have v43 : ∀ i, s1 43 0 i = if i = L.length then (d : Int) else σ 43 0 i := fun i => by
    subst hs1
    rw [mup_r (by decide), mup_r (by decide), mup_def]
    by_cases z : i = L.length
    · rw [if_pos ⟨rfl, rfl, z⟩, if_pos z]
    · rw [if_neg (fun y => z y.2.2), if_neg z, mup_r (by decide), mup_r (by decide), mup_r (by decide), f0 43 _ _ (by decide)]
  have v44 : ∀ i, s1 44 0 i = if i = L.length then ((prL L d).length : Int) else σ 44 0 i := fun i => by
    subst hs1
    rw [mup_r (by decide), mup_def]
    by_cases z : i = L.length
    · rw [if_pos ⟨rfl, rfl, z⟩, if_pos z]
    · rw [if_neg (fun y => z y.2.2), if_neg z, mup_r (by decide), mup_r (by decide), mup_r (by decide), mup_r (by decide), f0 44 _ _ (by decide)]
  have hfr := frl_ap hL h1 hd hj hno
  have hfr' : frs (pvv E n (L ++ [(d, fst9 d + j)]) d) (wd d) (prL (L ++ [(d, fst9 d + j)]) d).length = frl E n L d ++ [(prL L d).length] := hfr
  refine ⟨s1, ?_, ⟨?_, Nat.le_refl _, fun p hp => ?_, ?_, ?_⟩, fr_sub f1 (fun r hr => by unfold LRf; simp at hr ⊢; omega), fun a ha => ?_, FW_ap hL h1 hd hj hF (by subst hs1; exact mup_s _ _ _ _ _) v43 v44, fun a ha => ⟨fun k => ?_, fun p k hp => ⟨?_, ?_, f1 55 _ _ (by decide), f1 57 _ _ (by decide)⟩, fun k => ⟨?_, f1 53 _ _ (by decide), f1 58 _ _ (by decide)⟩⟩, fun k hk0 => ?_⟩
  · unfold f_X0_addOne
    rw [h473', tN, d64 (show (prL L d).length < 64 by omega), gwd_wd, c1, if_pos (by omega), if_pos (by omega), if_pos (by omega), fill_r49 hN, hs0, Option.bind_some, h42, tN, if_pos (by omega), h473s, mw_s (by omega), mup_k (by decide), mup_r (by decide), mup_r (by decide), h470s, mw_s (by omega), hs1]
  · rw [v47, if_pos ⟨rfl, rfl⟩, hpa, List.length_append]
    rfl
  · rw [hpa] at hp ⊢
    have hp2 : p < (prL L d).length + 1 := by simpa using hp
    by_cases ep : p < (prL L d).length
    · obtain ⟨r1, r2, r3⟩ := hrows p ep
      rw [getD_ap ep]
      refine ⟨fun y hy => ?_, fun i hi => ?_, ?_⟩
      · rw [v51, o51 _ _ (by omega), hk.1 51 _ _ (by decide), pvv_ap hL h1 hd hj ep]
        exact r1 y hy
      · rw [v49, if_neg (by omega), o49 _ _ (by omega), hk.1 49 _ _ (by decide)]
        exact r2 i hi
      · rw [v52, if_neg (by omega), hk.1 52 _ _ (by decide)]
        exact r3
    · have : p = (prL L d).length := by omega
      subst this
      rw [getD_la]
      refine ⟨fun y hy => ?_, fun i hi => ?_, ?_⟩
      · rw [v51, n51 y hy, pvv_la hL h1 hd hj hy]
        have := meanM_rg E n (fst9 d + j) (fst9 d + y)
        unfold mnv
        omega
      · rw [v49]
        by_cases ei : i = L.length
        · subst ei
          rw [if_pos ⟨rfl, rfl⟩]
          simp
        · rw [if_neg (fun z => ei z.2), n49 i hi, List.count_cons_of_ne (fun z => ei z.symm)]
          rfl
      · rw [v52, if_pos ⟨rfl, rfl⟩]
        rfl
  · rw [hfr']
    intro f hf
    rw [f1 53 _ _ (by decide)]
    by_cases ef : f < (frl E n L d).length
    · rw [getD_ap ef, h53o f (by omega)]
      exact h53c f ef
    · have : f = (frl E n L d).length := by simp at hf; omega
      subst this
      rw [getD_la, h53]
  · rw [hfr', show (frl E n L d ++ [(prL L d).length]).length = (frl E n L d).length + 1 from by simp]
    refine LE_V (LE_fr hLE (by rw [v47, if_neg (by omega)]) (fun f k _ => ⟨f1 55 _ _ (by decide), f1 57 _ _ (by decide)⟩) (fun f _ => f1 58 _ _ (by decide))) (fun f hf y hy => ?_)
    try dsimp only
    by_cases ef : f = (frl E n L d).length
    · subst ef
      rw [if_pos rfl, getD_la, pvv_la hL h1 hd hj hy]
      exact em_r _
    · have hlt : (frl E n L d).getD f 0 < (prL L d).length := frs_lt _ _ _ f (show f < (frl E n L d).length by omega)
      rw [if_neg ef, getD_ap (show f < (frl E n L d).length by omega), pvv_ap hL h1 hd hj hlt]
      exact em_r _
  · rw [v47, v47, v47, if_neg (by omega), if_neg (by omega), if_neg (by omega)]
    exact hC a ha
  · rw [v47, if_neg (fun z => ha z.1)]
  · rw [v51, o51 _ _ (by omega)]
  · rw [v49, if_neg (by omega), o49 _ _ (by omega)]
  · rw [v52, if_neg (fun z => ha z.1)]
  · subst hs1
    rw [mup_k hk0, mup_r (by decide), mup_r (by decide), mup_r (by decide), mup_r (by decide), mup_r (by decide), f0 42 _ _ (by decide)]
