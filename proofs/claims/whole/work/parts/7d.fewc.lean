/-! the class copies a FEW -/
theorem fill_r33 {N p : Nat} (hN : 1000 ≤ N) (v : Int) (σ : mS) : f_J7_fill_53178_r33 N p v σ = some (msv σ 33 p 165 v) := by
  unfold f_J7_fill_53178_r33
  rw [show (0 : Int) = ((0 : Nat) : Int) from rfl, fill_lp (L := fun f k s => L_J7_fill_53178_r33_5 N f p v k 165 s) (r := 33) (i := p) (n := 165) (v := v) (fun f k s hk => by
    rw [L_J7_fill_53178_r33_5_s, if_neg (by omega), if_pos (by omega), show (k : Int).toNat = k from by omega, show mw ((k : Int) + 1) = ((k + 1 : Nat) : Int) from mw_id (by omega) (by omega)]) (fun f s => by
    rw [L_J7_fill_53178_r33_5_s, if_pos (by omega)]) 165 0 N σ (by omega) (by omega), Option.bind_some]
  refine congrArg some ?_
  funext r' i' k'
  unfold msv
  by_cases e : r' = 33 ∧ i' = p ∧ k' < 165
  · rw [if_pos e, if_pos ⟨e.1, e.2.1, Nat.zero_le _, e.2.2⟩]
  · rw [if_neg e, if_neg (fun q => e ⟨q.1, q.2.1, q.2.2.2⟩)]
theorem mcp_d {σ : mS} {r0 i0 r1 i1 d n k : Nat} : mcp σ r0 i0 0 r1 i1 (d : Int) (n : Int) r1 i1 k = if d ≤ k ∧ k < d + n then σ r0 i0 (k - d) else σ r1 i1 k := by
  unfold mcp
  rw [if_pos ⟨rfl, rfl⟩]
  by_cases q : d ≤ k ∧ k < d + n
  · rw [if_pos q, pk_cpy_in (f := σ r0 i0) (g := σ r1 i1) (sp := (0 : Int).toNat) (dp := (d : Int).toNat) (n := (n : Int).toNat) (j := k) (by rw [tN]; exact q.1) (by rw [tN, tN]; exact q.2)]
    refine congrArg (σ r0 i0) ?_
    show 0 + (k - (d : Int).toNat) = k - d
    rw [tN]; omega
  · rw [if_neg q]
    exact pk_cpy_out (by rw [tN, tN]; omega)
theorem meanM_o {E : Nat → tn} {n x k : Nat} (hG : GP E n) (hx : x < 165) (hk : k < 165) (h : pD k ≠ pD x) : meanM E n x k = 0 := by
  have := meanM_hom hG hx (ax k) (by rw [dg_ax hk]; exact h)
  rw [PR_ax _ hk] at this
  exact this
theorem X0_copyInto_eq {N n p i : Nat} {E : Nat → tn} {L : List (Nat × Nat)} {σ : mS} (hN : 1000 ≤ N) (hG : GP E n) (hC : CLy σ) (hF : FW σ L) (hL : LOd L 6) (hB : BD L) (hA : ∀ a, a ≤ 6 → LPq σ E n L a (prL L a).length) (hi : i < L.length) : ∃ σ', f_X0_copyInto_r33 N p (i : Int) σ = some σ' ∧ fr [33] σ σ' ∧ (∀ x, x < 165 → σ' 33 p x = meanM E n (L.getD i (0, 0)).2 x) ∧ ∀ p', p' ≠ p → ∀ x, σ' 33 p' x = σ 33 p' x := by
  have h6 := hB.1
  obtain ⟨e1, q, e2, hq, eq1⟩ := hF.2 i hi
  obtain ⟨d1, d2, d3, d4⟩ := hL.1 i hi
  generalize hd : fwd L i = d at *
  have hqg := hB.2 d (by omega)
  have g56 := gmo_le d (List.mem_range.mpr (by omega))
  obtain ⟨w1, w2, w3, -⟩ := wd_fst d (List.mem_range.mpr (by omega))
  obtain ⟨c1, c2, -⟩ := hC d (by omega)
  obtain ⟨-, -, a3, -⟩ := hA d (by omega)
  obtain ⟨a4, -⟩ := a3 q hq
  have hg : gwd ((64 * d + q) / 64) = wd d := by rw [show (64 * d + q) / 64 = d from by omega]; rfl
  have v33 : ∀ r i k, r ≠ 33 → msv σ 33 p 165 0 r i k = σ r i k := fun r i k h => by unfold msv; rw [if_neg (fun z => h z.1)]
  refine ⟨mcp (msv σ 33 p 165 0) 51 (64 * d + q) 0 33 p ((fst9 d : Nat) : Int) ((wd d : Nat) : Int), ?_, fr_mcp (fun r i k h => v33 r i k (by simpa using h)) (by decide), fun x hx => ?_, fun p' hp' x => ?_⟩
  · unfold f_X0_copyInto_r33
    rw [tN, e1, if_pos (by omega), tN, fill_r33 hN, Option.bind_some, v33 44 _ _ (by decide), e2, if_pos (by omega), v33 47 _ _ (by decide), c1, X7_firstOf_eq (by omega), Option.bind_some]
    try dsimp only
    rw [v33 47 _ _ (by decide), c2, tN, hg, show d * (d + 1) * (d + 2) / 6 = fst9 d from rfl, if_pos (by omega)]
  · rw [mcp_d]
    by_cases hx2 : fst9 d ≤ x ∧ x < fst9 d + wd d
    · rw [if_pos hx2, v33 51 _ _ (by decide), a4 _ (by omega)]
      unfold pvv
      rw [eq1, show fst9 d + (x - fst9 d) = x from by omega, pvL_c]
      show cv (fwP E n L i) oneP (ax x) % 32003 = _
      rw [cv_1r]
      unfold fwP
      rw [PR_ax _ hx]
      have := meanM_rg E n (L.getD i (0, 0)).2 x
      exact Int.emod_eq_of_lt this.1 this.2
    · rw [if_neg hx2]
      show (if 33 = 33 ∧ p = p ∧ x < 165 then (0 : Int) else σ 33 p x) = _
      rw [if_pos ⟨rfl, rfl, hx⟩]
      refine (meanM_o hG d3 hx (fun z => hx2 ?_)).symm
      rw [d4] at z
      obtain ⟨y1, y2⟩ := pD_fst (show d ≤ 8 by omega) hx z
      omega
  · rw [mcp_r (Or.inr hp')]
    unfold msv
    rw [if_neg (fun z => hp' z.2.1)]
