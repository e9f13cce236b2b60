/-! the class's layers: all PRODUCTS of a degree -/
theorem fil_take {p : List Nat → Bool} {X : List (List Nat)} {x : Nat} (hx : x < X.length) : ((X.take (x + 1)).filter p) = (X.take x).filter p ++ (if p (X.getD x []) = true then [X.getD x []] else []) := by
  rw [List.take_add_one, List.filter_append, List.getD_eq_getElem?_getD, List.getElem?_eq_getElem hx]
  congr 1
  show List.filter p [X[x]] = _
  cases h : p X[x] <;> simp [List.filter, h]
theorem fil_at {p : List Nat → Bool} {X : List (List Nat)} {x : Nat} (hx : x < X.length) (hp : p (X.getD x []) = true) : (X.filter p).getD ((X.take x).filter p).length [] = X.getD x [] ∧ ((X.take x).filter p).length < (X.filter p).length := by
  have e : X.filter p = (X.take x).filter p ++ (X.getD x [] :: (X.drop (x + 1)).filter p) := by
    have h1 : X = X.take x ++ (X.getD x [] :: X.drop (x + 1)) := by
      rw [List.getD_eq_getElem?_getD, List.getElem?_eq_getElem hx]
      show X = X.take x ++ (X[x] :: X.drop (x + 1))
      rw [← List.drop_eq_getElem_cons hx, List.take_append_drop]
    have h2 := congrArg (List.filter p) h1
    rw [List.filter_append] at h2
    rw [h2]
    congr 1
    rw [List.filter_cons, if_pos hp]
  rw [e]
  refine ⟨?_, by simp⟩
  rw [List.getD_eq_getElem?_getD, List.getElem?_append_right (Nat.le_refl _), Nat.sub_self]
  rfl
/-- what stands around a layer's making -/
def LyC (σ : mS) (E : Nat → tn) (n : Nat) (L : List (Nat × Nat)) (d : Nat) : Prop := CPw σ ∧ CLy σ ∧ FW σ L ∧ ∀ a, a < d → LPq σ E n L a (prL L a).length
theorem LyC_ag {σ σ' : mS} {E : Nat → tn} {n d : Nat} {L : List (Nat × Nat)} (h : LyC σ E n L d) (hB : BD L) (hd : d ≤ 7) (hf : fr LRs σ σ') (hC : CLy σ') (ha : ∀ a, a < d → agl a σ σ') : LyC σ' E n L d := ⟨CPw_ag h.1 (ag_fr hf (by decide)), hC, FW_fr h.2.2.1 hf (by decide), fun a had => LPq_ag (h.2.2.2 a had) (by
  have := hB.2 a (by omega)
  have := gmo_le a (List.mem_range.mpr (by omega))
  omega) (ha a had)⟩
theorem X0_addP_in {N n d i : Nat} {E : Nat → tn} {L : List (Nat × Nat)} {σ : mS} (hN : 1000 ≤ N) (hG : GP E n) (hd : d ≤ 6) (hL : LOd L (d - 1)) (hB : BD L) (hi : i < L.length) (hid : fwd L i ≤ d) (h1 : 1 ≤ d) (hc : LyC σ E n L d) (hq : LPq σ E n L d (ctp L d i).length) :
    ∃ σ', L_X0_addProducts_50 N N d (i : Int) (d - fwd L i) 0 σ = some σ' ∧ LPq σ' E n L d (ctp L d (i + 1)).length ∧ fr LRs σ σ' ∧ CLy σ' ∧ ∀ a, a ≠ d → agl a σ σ' := by
  have hO := hL.1 i hi
  have hdi := hL.2 i hi
  have he1 : 1 ≤ d - fwd L i := by omega
  have g56e := gmo_le (d - fwd L i) (List.mem_range.mpr (by omega))
  have lge := hB.2 (d - fwd L i) (by omega)
  have lgd := hB.2 d hd
  have hflt : flt L d i = ((prL L (d - fwd L i)).filter (fun l => decide (i ≤ lst l))).map (fun l => i :: l) := by unfold flt; rw [if_pos hid]
  have hct : ctp L d (i + 1) = ctp L d i ++ flt L d i := rfl
  have hall := ctp_ok (d := d) hL.1 hB.1 (i + 1) (by omega)
  obtain ⟨s1, e, h2, h3, h4, h5⟩ := lp_0 (L := fun g k s => L_X0_addProducts_50 N g d (i : Int) (d - fwd L i) k s) (I := fun x s => LPq s E n L d ((ctp L d i).length + (((prL L (d - fwd L i)).take x).filter (fun l => decide (i ≤ lst l))).length) ∧ fr LRs σ s ∧ CLy s ∧ ∀ a, a ≠ d → agl a σ s) (P := fun s => LPq s E n L d (ctp L d (i + 1)).length ∧ fr LRs σ s ∧ CLy s ∧ ∀ a, a ≠ d → agl a σ s) (prL L (d - fwd L i)).length (fun g x s hx hI => by
      obtain ⟨h2, h3, h4, h5⟩ := hI
      left
      have hcs := LyC_ag hc hB (by omega) h3 h4 (fun a ha => h5 a (by omega))
      have hle := hcs.2.2.2 (d - fwd L i) (by omega)
      have h52 := (hle.2.2.1 x hx).2.2
      try dsimp only
      rw [L_X0_addProducts_50_s, hle.1, if_neg (by omega), if_pos (by omega), tN, h52, mw_s (by omega)]
      have hft := fil_take (p := fun l => decide (i ≤ lst l)) hx
      by_cases q : i ≤ lst ((prL L (d - fwd L i)).getD x [])
      · rw [if_neg (by omega)]
        obtain ⟨a1, a2⟩ := fil_at (p := fun l => decide (i ≤ lst l)) hx (decide_eq_true q)
        have hlen : ((ctp L d i).length + (((prL L (d - fwd L i)).take x).filter (fun l => decide (i ≤ lst l))).length) < (ctp L d (i + 1)).length := by
          rw [hct, hflt, List.length_append, List.length_map]
          omega
        have hpr : (prL L d).getD ((ctp L d i).length + (((prL L (d - fwd L i)).take x).filter (fun l => decide (i ≤ lst l))).length) [] = i :: (prL L (d - fwd L i)).getD x [] := by
          rw [hall, getD_ap hlen, hct, List.getD_eq_getElem?_getD, List.getElem?_append_right (by omega), show (ctp L d i).length + (((prL L (d - fwd L i)).take x).filter (fun l => decide (i ≤ lst l))).length - (ctp L d i).length = (((prL L (d - fwd L i)).take x).filter (fun l => decide (i ≤ lst l))).length from by omega, hflt, List.getElem?_map, List.getElem?_eq_getElem a2]
          rw [List.getD_eq_getElem?_getD, List.getElem?_eq_getElem a2] at a1
          show i :: _ = i :: _
          congr 1
        have hlt : (ctp L d i).length + (((prL L (d - fwd L i)).take x).filter (fun l => decide (i ≤ lst l))).length < (prL L d).length := by
          rw [hall, List.length_append]
          omega
        obtain ⟨s2, r1, r2, r3, r4, r5⟩ := X0_addProduct_eq (N := N) (e := d - fwd L i) (x := x) hN hcs.1 hcs.2.1 hG hd hL hB hi (by omega) he1 hcs.2.2.1 hcs.2.2.2 h2 hlt hx hpr
        unfold f_X3_isFull
        rw [h2.1, (h4 d hd).2.2, if_pos (by omega), Option.bind_some]
        try dsimp only
        rw [if_pos rfl, r1, Option.bind_some]
        refine ⟨s2, rfl, ?_, fr_trans h3 r3, r4, fun a ha => agl_trans (h5 a ha) (r5 a ha)⟩
        rw [hft, if_pos (decide_eq_true q), List.length_append]
        exact r2
      · rw [if_pos (by omega)]
        refine ⟨s, rfl, ?_, h3, h4, h5⟩
        rw [hft, if_neg (by rw [decide_eq_false q]; decide), List.append_nil]
        exact h2) (fun g s hI => by
      obtain ⟨h2, h3, h4, h5⟩ := hI
      have hcs := LyC_ag hc hB (by omega) h3 h4 (fun a ha => h5 a (by omega))
      have hle := hcs.2.2.2 (d - fwd L i) (by omega)
      refine ⟨s, ?_, ?_, h3, h4, h5⟩
      · try dsimp only
        rw [L_X0_addProducts_50_s, hle.1, if_pos (by omega)]
      · rw [hct, hflt, List.length_append, List.length_map]
        rw [List.take_length] at h2
        exact h2) (f := N) (s := σ) (by omega) ⟨by simpa using hq, fr_rfl, hc.2.1, fun a _ => agl_rfl⟩
  exact ⟨s1, e, h2, h3, h4, h5⟩
theorem X0_addProducts_eq {N n d : Nat} {E : Nat → tn} {L : List (Nat × Nat)} {σ : mS} (hN : 1000 ≤ N) (hG : GP E n) (hd : d ≤ 6) (hL : LOd L (d - 1)) (hB : BD L) (h1 : 1 ≤ d) (hc : LyC σ E n L d) (hq : LPq σ E n L d 0) :
    ∃ σ', f_X0_addProducts N d σ = some σ' ∧ LPq σ' E n L d (prL L d).length ∧ fr LRs σ σ' ∧ CLy σ' ∧ ∀ a, a ≠ d → agl a σ σ' := by
  obtain ⟨s1, e, h2, h3, h4, h5⟩ := lp_0 (L := fun g k s => L_X0_addProducts_2 N g d k s) (I := fun i s => LPq s E n L d (ctp L d i).length ∧ fr LRs σ s ∧ CLy s ∧ ∀ a, a ≠ d → agl a σ s) (P := fun s => LPq s E n L d (ctp L d L.length).length ∧ fr LRs σ s ∧ CLy s ∧ ∀ a, a ≠ d → agl a σ s) L.length (fun g i s hi hI => by
      obtain ⟨h2, h3, h4, h5⟩ := hI
      left
      have hcs := LyC_ag hc hB (by omega) h3 h4 (fun a ha => h5 a (by omega))
      have hO := hL.1 i hi
      have hdi := hL.2 i hi
      have hL6 := hB.1
      obtain ⟨h43, -⟩ := hcs.2.2.1.2 i hi
      obtain ⟨s2, r1, r2, r3, r4, r5⟩ := X0_addP_in (N := N) hN hG hd hL hB hi (by omega) h1 hcs h2
      try dsimp only
      rw [L_X0_addProducts_2_s, hcs.2.2.1.1, if_neg (by omega), if_pos (by omega), tN, h43, (h4 d hd).1, show mw ((d : Int) - (fwd L i : Int)) = ((d - fwd L i : Nat) : Int) from (by rw [mw_id (by omega) (by omega)]; omega), if_neg (by omega), if_pos (by omega), if_pos (by omega), tN, r1, Option.bind_some, mw_s (by omega)]
      exact ⟨s2, rfl, r2, fr_trans h3 r3, r4, fun a ha => agl_trans (h5 a ha) (r5 a ha)⟩) (fun g s hI => by
      obtain ⟨h2, h3, h4, h5⟩ := hI
      have hF := FW_fr hc.2.2.1 h3 (by decide)
      refine ⟨s, ?_, h2, h3, h4, h5⟩
      try dsimp only
      rw [L_X0_addProducts_2_s, hF.1, if_pos (by omega)]) (f := N) (s := σ) (by have := hB.1; omega) ⟨hq, fr_rfl, hc.2.1, fun a _ => agl_rfl⟩
  refine ⟨s1, ?_, ?_, h3, h4, h5⟩
  · unfold f_X0_addProducts
    try dsimp only at e
    rw [e]
    rfl
  · rw [ctp_all hL.1 hB.1 h1]
    exact h2
