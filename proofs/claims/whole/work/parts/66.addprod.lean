/-! the class's layers: PRODUCTS are added -/
/-- layer e is as it was -/
def agl (e : Nat) (σ σ' : mS) : Prop := (∀ k, σ' 47 e k = σ 47 e k) ∧ (∀ p k, p < 64 → σ' 51 (64 * e + p) k = σ 51 (64 * e + p) k ∧ σ' 49 (64 * e + p) k = σ 49 (64 * e + p) k ∧ σ' 55 (64 * e + p) k = σ 55 (64 * e + p) k ∧ σ' 57 (64 * e + p) k = σ 57 (64 * e + p) k) ∧ ∀ k, σ' 52 e k = σ 52 e k ∧ σ' 53 e k = σ 53 e k ∧ σ' 58 e k = σ 58 e k
theorem agl_rfl {e : Nat} {σ : mS} : agl e σ σ := ⟨fun _ => rfl, fun _ _ _ => ⟨rfl, rfl, rfl, rfl⟩, fun _ => ⟨rfl, rfl, rfl⟩⟩
theorem agl_trans {e : Nat} {a b c : mS} (h1 : agl e a b) (h2 : agl e b c) : agl e a c := ⟨fun k => (h2.1 k).trans (h1.1 k), fun p k hp => ⟨(h2.2.1 p k hp).1.trans (h1.2.1 p k hp).1, (h2.2.1 p k hp).2.1.trans (h1.2.1 p k hp).2.1, (h2.2.1 p k hp).2.2.1.trans (h1.2.1 p k hp).2.2.1, (h2.2.1 p k hp).2.2.2.trans (h1.2.1 p k hp).2.2.2⟩, fun k => ⟨(h2.2.2 k).1.trans (h1.2.2 k).1, (h2.2.2 k).2.1.trans (h1.2.2 k).2.1, (h2.2.2 k).2.2.trans (h1.2.2 k).2.2⟩⟩
theorem agl_fr {e : Nat} {R : List Nat} {σ σ' : mS} (h : fr R σ σ') (hd : ∀ r, r ∈ [47, 49, 51, 52, 53, 55, 57, 58] → r ∉ R) : agl e σ σ' := ⟨fun k => h 47 _ _ (hd 47 (by decide)), fun p k _ => ⟨h 51 _ _ (hd 51 (by decide)), h 49 _ _ (hd 49 (by decide)), h 55 _ _ (hd 55 (by decide)), h 57 _ _ (hd 57 (by decide))⟩, fun k => ⟨h 52 _ _ (hd 52 (by decide)), h 53 _ _ (hd 53 (by decide)), h 58 _ _ (hd 58 (by decide))⟩⟩
theorem agl_kp {d e : Nat} {σ σ' : mS} (h : kp d σ σ') (he : e ≠ d) : agl e σ σ' := ⟨fun k => h.2.1 e k (fun z => he z.1), fun p k hp => ⟨h.1 51 _ _ (by decide), h.1 49 _ _ (by decide), (h.2.2.2 _ k (by rw [d64 hp]; exact he)).1, (h.2.2.2 _ k (by rw [d64 hp]; exact he)).2⟩, fun k => ⟨h.1 52 _ _ (by decide), (h.2.2.1 e k he).1, (h.2.2.1 e k he).2⟩⟩
/-- the first q PRODUCTS of degree d are in place -/
def LPq (σ : mS) (E : Nat → tn) (n : Nat) (L : List (Nat × Nat)) (d q : Nat) : Prop := σ 47 d 3 = (q : Int) ∧ q ≤ (prL L d).length ∧ (∀ p, p < q → (∀ y, y < wd d → σ 51 (64 * d + p) y = pvv E n L d p y % 32003) ∧ (∀ i, i < 6 → σ 49 (64 * d + p) i = (((prL L d).getD p []).count i : Int)) ∧ σ 52 d p = (lst ((prL L d).getD p []) : Int)) ∧ (∀ f, f < (frs (pvv E n L d) (wd d) q).length → σ 53 d f = ((frs (pvv E n L d) (wd d) q).getD f 0 : Int)) ∧ LE σ d (frs (pvv E n L d) (wd d) q).length (fun f => pvv E n L d ((frs (pvv E n L d) (wd d) q).getD f 0))
theorem frs_len (V : Nat → Nat → Int) (W : Nat) : ∀ q, (frs V W q).length ≤ q
  | 0 => Nat.le_refl _
  | q + 1 => by
    have := frs_len V W q
    by_cases h : inS (fun f => V ((frs V W q).getD f 0)) (frs V W q).length W (V q)
    · rw [frs_in h]; omega
    · rw [frs_out h]; simp; omega
theorem LPq_ag {σ σ' : mS} {E : Nat → tn} {n d q : Nat} {L : List (Nat × Nat)} (h : LPq σ E n L d q) (hq : q ≤ 64) (ha : agl d σ σ') : LPq σ' E n L d q := by
  obtain ⟨a, b, c, f, g⟩ := h
  have hl := frs_len (pvv E n L d) (wd d) q
  refine ⟨by rw [ha.1]; exact a, b, fun p hp => ?_, fun i hi => by rw [(ha.2.2 i).2.1]; exact f i hi, LE_fr g (ha.1 7) (fun i k hi => ⟨(ha.2.1 i k (by omega)).2.2.1, (ha.2.1 i k (by omega)).2.2.2⟩) (fun i hi => (ha.2.2 i).2.2)⟩
  obtain ⟨c1, c2, c3⟩ := c p hp
  exact ⟨fun y hy => by rw [(ha.2.1 p y (by omega)).1]; exact c1 y hy, fun i hi => by rw [(ha.2.1 p i (by omega)).2.1]; exact c2 i hi, by rw [(ha.2.2 p).1]; exact c3⟩
/-- the class bears the FEW -/
def FW (σ : mS) (L : List (Nat × Nat)) : Prop := σ 42 0 0 = (L.length : Int) ∧ ∀ i, i < L.length → σ 43 0 i = (fwd L i : Int) ∧ ∃ p : Nat, σ 44 0 i = (p : Int) ∧ p < (prL L (fwd L i)).length ∧ (prL L (fwd L i)).getD p [] = [i]
theorem FW_fr {σ σ' : mS} {L : List (Nat × Nat)} {R : List Nat} (h : FW σ L) (hf : fr R σ σ') (hd : ∀ r, r ∈ [42, 43, 44] → r ∉ R) : FW σ' L := ⟨by rw [hf 42 _ _ (hd 42 (by decide))]; exact h.1, fun i hi => by rw [hf 43 _ _ (hd 43 (by decide)), hf 44 _ _ (hd 44 (by decide))]; exact h.2 i hi⟩
/-- as many as the class has room for -/
def BD (L : List (Nat × Nat)) : Prop := L.length ≤ 6 ∧ ∀ d, d ≤ 6 → (prL L d).length ≤ gmo d
theorem gmo_le : ∀ d ∈ List.range 7, gmo d ≤ 56 := by decide +kernel
def LRs : List Nat := [47, 49, 51, 52, 53, 55, 57, 58, 59, 60]
theorem X0_addProduct_eq {N n d e i x q : Nat} {E : Nat → tn} {L : List (Nat × Nat)} {σ : mS} (hN : 1000 ≤ N) (H : CPw σ) (hC : CLy σ) (hG : GP E n) (hd : d ≤ 6) (hL : LOd L (d - 1)) (hB : BD L) (hi : i < L.length) (hie : fwd L i + e = d) (he1 : 1 ≤ e)
    (hF : FW σ L) (hla : ∀ a, a < d → LPq σ E n L a (prL L a).length) (hq : LPq σ E n L d q) (hql : q < (prL L d).length) (hx : x < (prL L e).length) (hpr : (prL L d).getD q [] = i :: (prL L e).getD x []) :
    ∃ σ', f_X0_addProduct N d (i : Int) e (x : Int) σ = some σ' ∧ LPq σ' E n L d (q + 1) ∧ fr LRs σ σ' ∧ CLy σ' ∧ ∀ a, a ≠ d → agl a σ σ' := by
  obtain ⟨L6, Lg⟩ := hB
  have hO := hL.1 i hi
  have hdi := hL.2 i hi
  have g56 := gmo_le d (List.mem_range.mpr (by omega))
  have g56e := gmo_le e (List.mem_range.mpr (by omega))
  have g56a := gmo_le (fwd L i) (List.mem_range.mpr (by omega))
  have lge := Lg e (by omega)
  have lgd := Lg d hd
  have lga := Lg (fwd L i) (by omega)
  obtain ⟨h42, hFi⟩ := hF
  obtain ⟨h43, p, h44, hp, hpl⟩ := hFi i hi
  obtain ⟨h473, hqle, hrows, h53, hLE⟩ := hq
  have hle := hla e (by omega)
  have hlaa := hla (fwd L i) (by omega)
  obtain ⟨mem1, mem2⟩ := prL_mem hL.1 hx
  -- behind often, leastFew
  generalize hs0 : mup (mup (mcp σ 49 (64 * e + x) 0 49 (64 * d + q) 0 6) 49 (64 * d + q) i (mw ((mcp σ 49 (64 * e + x) 0 49 (64 * d + q) 0 6) 49 (64 * d + q) i + 1))) 52 d q (i : Int) = s0
  have f0 : fr [49, 52] σ s0 := by subst hs0; exact fr_mup (fr_mup (fr_mcp fr_rfl (by decide)) (by decide)) (by decide)
  have cnt6 : ∀ j, j < 6 → (mcp σ 49 (64 * e + x) 0 49 (64 * d + q) 0 6) 49 (64 * d + q) j = (((prL L e).getD x []).count j : Int) := fun j hj => by
    rw [show (6 : Int) = ((6 : Nat) : Int) from rfl, mcp_in hj]
    exact (hle.2.2.1 x hx).2.1 j hj
  have hcl : ((prL L e).getD x []).count i ≤ 6 := by
    have h1 := List.count_le_length (a := i) (l := (prL L e).getD x [])
    have h2 : ∀ l : List Nat, (∀ j, j ∈ l → j < L.length) → l.length ≤ lsd L l := by
      intro l
      induction l with
      | nil => intro _; exact Nat.le_refl _
      | cons j l ih =>
        intro hm
        have := ih (fun k hk => hm k (by simp [hk]))
        have := (hL.1 j (hm j (by simp))).1
        show l.length + 1 ≤ fwd L j + lsd L l
        omega
    have := h2 _ mem2
    omega
  have n49 : ∀ j, j < 6 → s0 49 (64 * d + q) j = (((prL L d).getD q []).count j : Int) := fun j hj => by
    rw [hpr]
    subst hs0
    rw [mup_r (by decide)]
    by_cases ej : j = i
    · subst ej
      rw [mup_s, cnt6 j hj, mw_s (by omega), List.count_cons_self]
    · rw [mup_k ej, cnt6 j hj, List.count_cons_of_ne (fun z => ej z.symm)]
  have o49 : ∀ r k, r ≠ 64 * d + q → s0 49 r k = σ 49 r k := fun r k hr => by subst hs0; rw [mup_r (by decide), mup_i hr, mcp_r (Or.inr hr)]
  have n52 : s0 52 d q = (i : Int) := by subst hs0; exact mup_s _ _ _ _ _
  have o52 : ∀ a k, ¬ (a = d ∧ k = q) → s0 52 a k = σ 52 a k := fun a k h => by subst hs0; rw [mup_def, if_neg (fun z => h z.2), mup_r (by decide), mcp_r (Or.inl (by decide))]
  have H0 := CPw_ag H (ag_fr f0 (by decide))
  have hC0 : CLy s0 := fun a ha => by rw [f0 47 _ _ (by decide), f0 47 _ _ (by decide), f0 47 _ _ (by decide)]; exact hC a ha
  -- the product
  have hA := fwP_hom hG hL.1 hi
  have hBm := pvL_hom hG hL.1 ((prL L e).getD x []) mem2 (by omega)
  rw [mem1] at hBm
  obtain ⟨s1, m1, m2, m3, m4⟩ := X0_mulInto_eq (N := N) (a := fwd L i) (b := e) (d := d) (qa := p) (qb := x) (q := q) (A := fwP E n L i) (B := pvL E n L ((prL L e).getD x [])) (σ := s0) hN H0 hC0 hie hd (by omega) (by omega) (by omega) (by omega) (by omega) (by omega) (by omega) hA hBm (fun y hy => by
    rw [f0 51 _ _ (by decide), (hlaa.2.2.1 p hp).1 y hy]
    unfold pvv
    rw [hpl, pvL_c]
    show cv (fwP E n L i) oneP _ % 32003 = _
    rw [cv_1r]) (fun y hy => by
    rw [f0 51 _ _ (by decide), (hle.2.2.1 x hx).1 y hy]
    rfl)
  have hrow : ∀ y, y < wd d → s1 51 (64 * d + q) y = pvv E n L d q y % 32003 := fun y hy => by
    rw [m4 y hy]
    unfold pvv
    rw [hpr, pvL_c]
  have f1 : fr [49, 51, 52] σ s1 := fr_trans (fr_sub f0 (fun r hr => by simp at hr ⊢; omega)) (fr_sub m2 (fun r hr => by simp at hr ⊢; omega))
  have hC1 : CLy s1 := fun a ha => by rw [f1 47 _ _ (by decide), f1 47 _ _ (by decide), f1 47 _ _ (by decide)]; exact hC a ha
  have hLE1 : LE s1 d (frs (pvv E n L d) (wd d) q).length (fun f => pvv E n L d ((frs (pvv E n L d) (wd d) q).getD f 0)) := LE_fr hLE (f1 47 _ _ (by decide)) (fun f k _ => ⟨f1 55 _ _ (by decide), f1 57 _ _ (by decide)⟩) (fun f _ => f1 58 _ _ (by decide))
  obtain ⟨b, s2, k1, k2, k3⟩ := X3_keep_r51 (N := N) (d := d) (q1 := q) (z := (q : Int)) (v := fun y => pvv E n L d q y % 32003) hN hd hC1 hLE1 (by omega) hrow (fun y _ => md_lt _)
  have hem : ∀ y, y < wd d → em (pvv E n L d q y % 32003) (pvv E n L d q y) := fun y _ => em_md _
  have hiff : inS (fun f => pvv E n L d ((frs (pvv E n L d) (wd d) q).getD f 0)) (frs (pvv E n L d) (wd d) q).length (wd d) (fun y => pvv E n L d q y % 32003) ↔ inS (fun f => pvv E n L d ((frs (pvv E n L d) (wd d) q).getD f 0)) (frs (pvv E n L d) (wd d) q).length (wd d) (pvv E n L d q) := ⟨inS_cg (fun f _ k _ => em_r _) hem, inS_cg (fun f _ k _ => em_r _) (fun y hy => em_sy (hem y hy))⟩
  have h472 : s2 47 d 3 = (q : Int) := by rw [k2.2.1 d 3 (by omega), f1 47 _ _ (by decide)]; exact h473
  refine ⟨mup s2 47 d 3 ((q + 1 : Nat) : Int), ?_, ?_, ?_, ?_, fun a ha => ?_⟩
  · unfold f_X0_addProduct
    rw [h473, tN, tN, tN, h43, tN, h44, if_pos (by omega), if_pos (by omega), hs0, m1, Option.bind_some, if_pos (by omega), k1, Option.bind_some]
    try dsimp only
    rw [h472, mw_s (by omega)]
  · have base : ∀ {fs : List Nat}, frs (pvv E n L d) (wd d) (q + 1) = fs → (∀ f, f < fs.length → s2 53 d f = (fs.getD f 0 : Int)) → LE s2 d fs.length (fun f => pvv E n L d (fs.getD f 0)) → LPq (mup s2 47 d 3 ((q + 1 : Nat) : Int)) E n L d (q + 1) := by
      intro fs hfs h53' hLE'
      refine ⟨mup_s _ _ _ _ _, by omega, fun p' hp' => ?_, ?_, ?_⟩
      · rw [mup_r (by decide)]
        refine ⟨fun y hy => ?_, fun j hj => ?_, ?_⟩
        · rw [mup_r (by decide), k2.1 51 _ _ (by decide)]
          by_cases ep : p' = q
          · subst ep; exact hrow y hy
          · rw [m3 _ _ (by omega), f0 51 _ _ (by decide)]
            exact (hrows p' (by omega)).1 y hy
        · rw [mup_r (by decide), k2.1 49 _ _ (by decide), m2 49 _ _ (by decide)]
          by_cases ep : p' = q
          · subst ep; exact n49 j hj
          · rw [o49 _ _ (by omega)]
            exact (hrows p' (by omega)).2.1 j hj
        · rw [k2.1 52 _ _ (by decide), m2 52 _ _ (by decide)]
          by_cases ep : p' = q
          · subst ep; rw [n52, hpr]; rfl
          · rw [o52 d p' (fun z => ep z.2)]
            exact (hrows p' (by omega)).2.2
      · rw [hfs]
        intro f hf
        rw [mup_r (by decide)]; exact h53' f hf
      · rw [hfs]
        exact LE_fr hLE' (mup_k (by decide)) (fun f k _ => ⟨mup_r (by decide), mup_r (by decide)⟩) (fun f _ => mup_r (by decide))
    rcases k3 with ⟨-, hin, hfr⟩ | ⟨-, hout, hLE2, h53m, h53o⟩
    · refine base (frs_in (hiff.mp hin)) (fun f hf => ?_) (LE_fr hLE1 (hfr 47 _ _ (by decide)) (fun f k _ => ⟨hfr 55 _ _ (by decide), hfr 57 _ _ (by decide)⟩) (fun f _ => hfr 58 _ _ (by decide)))
      rw [hfr 53 _ _ (by decide), f1 53 _ _ (by decide)]
      exact h53 f hf
    · refine base (frs_out (fun z => hout (hiff.mpr z))) (fun f hf => ?_) ?_
      · by_cases ef : f < (frs (pvv E n L d) (wd d) q).length
        · rw [getD_ap ef, h53o f (by omega), f1 53 _ _ (by decide)]
          exact h53 f ef
        · have : f = (frs (pvv E n L d) (wd d) q).length := by simp at hf; omega
          subst this
          rw [getD_la, h53m]
      · rw [show (frs (pvv E n L d) (wd d) q ++ [q]).length = (frs (pvv E n L d) (wd d) q).length + 1 from by simp]
        refine LE_V hLE2 (fun f hf y hy => ?_)
        try dsimp only
        by_cases ef : f = (frs (pvv E n L d) (wd d) q).length
        · subst ef
          rw [if_pos rfl, getD_la]
          exact hem y hy
        · rw [if_neg ef, getD_ap (by omega)]
          exact em_r _
  · refine fr_mup (fr_trans (fr_sub f1 (fun r hr => by unfold LRs; simp at hr ⊢; omega)) (fr_sub k2.1 (fun r hr => by unfold LRs; simp at hr ⊢; omega))) (by decide)
  · intro a ha
    rw [mup_k (by decide), mup_k (by decide), mup_k (by decide)]
    exact CLy_kp hC1 k2 a ha
  · refine agl_trans (agl_trans (b := s1) ⟨fun k => f1 47 _ _ (by decide), fun p' k hp' => ⟨?_, ?_, f1 55 _ _ (by decide), f1 57 _ _ (by decide)⟩, fun k => ⟨?_, f1 53 _ _ (by decide), f1 58 _ _ (by decide)⟩⟩ (agl_kp k2 ha)) ⟨fun k => mup_i ha, fun p' k _ => ⟨mup_r (by decide), mup_r (by decide), mup_r (by decide), mup_r (by decide)⟩, fun k => ⟨mup_r (by decide), mup_r (by decide), mup_r (by decide)⟩⟩
    · rw [m3 _ _ (by omega), f0 51 _ _ (by decide)]
    · rw [m2 49 _ _ (by decide), o49 _ _ (by omega)]
    · rw [m2 52 _ _ (by decide), o52 a k (fun z => ha z.1)]
