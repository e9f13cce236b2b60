/-! every mean is in the span -/
theorem fwS_sp {E : Nat → tn} {n d : Nat} {L : List (Nat × Nat)} (h : LOd L d) (h1 : 1 ≤ d) (h6 : d ≤ 6) : ∀ j, j ≤ wd d → ∀ i, i < j → inS (FV E n (fwS E n d L j) d) (frl E n (fwS E n d L j) d).length (wd d) (mnv E n d i)
  | 0, _, i, hi => absurd hi (Nat.not_lt_zero _)
  | j + 1, hj, i, hi => by
    have ih := fwS_sp (E := E) (n := n) h h1 h6 j (by omega)
    have hO := LOd_S (E := E) (n := n) h h1 h6 j (by omega)
    by_cases q : inS (FV E n (fwS E n d L j) d) (frl E n (fwS E n d L j) d).length (wd d) (mnv E n d j)
    · rw [fwS_in q]
      by_cases e : i = j
      · rw [e]; exact q
      · exact ih i (by omega)
    · rw [fwS_out q]
      generalize fwS E n d L j = Ly at *
      rw [frl_ap hO h1 h6 (by omega) q, show (frl E n Ly d ++ [(prL Ly d).length]).length = (frl E n Ly d).length + 1 from by simp]
      have hV : ∀ f, f < (frl E n Ly d).length → ∀ k, k < wd d → em (FV E n Ly d f k) (FV E n (Ly ++ [(d, fst9 d + j)]) d f k) := fun f hf k hk => by
        unfold FV
        have hq : (frl E n Ly d).getD f 0 < (prL Ly d).length := frs_lt _ _ _ f hf
        rw [frl_ap hO h1 h6 (by omega) q, getD_ap hf, pvv_ap hO h1 h6 (by omega) hq]
        exact em_r _
      by_cases e : i = j
      · subst e
        refine inS_cg (w := FV E n (Ly ++ [(d, fst9 d + i)]) d (frl E n Ly d).length) (fun f _ k _ => em_r _) (fun k hk => ?_) (inS_1 (by omega))
        unfold FV
        rw [frl_ap hO h1 h6 (by omega) q, getD_la, pvv_la hO h1 h6 (by omega) hk]
        exact em_r _
      · exact inS_up (inS_cg hV (fun k _ => em_r _) (ih i (by omega)))
theorem few_sp {E : Nat → tn} {n d i : Nat} (h1 : 1 ≤ d) (h6 : d ≤ 6) (hi : i < wd d) : inS (FV E n (fewAt E n 6) d) (frl E n (fewAt E n 6) d).length (wd d) (mnv E n d i) := by
  obtain ⟨d', rfl⟩ : ∃ d', d = d' + 1 := ⟨d - 1, by omega⟩
  have h := fwS_sp (E := E) (n := n) (LOd_up (LOd_at E n d' (by omega)) (Nat.le_succ d')) h1 h6 (wd (d' + 1)) (Nat.le_refl _) i hi
  obtain ⟨-, k2, k3⟩ := few_keep (E := E) (n := n) (e := d' + 1) 6 h6 (Nat.le_refl _)
  rw [k3]
  refine inS_cg (fun f hf k hk => ?_) (fun k _ => em_r _) h
  show em (FV E n (fewAt E n (d' + 1)) (d' + 1) f k) _
  unfold FV
  have hq : (frl E n (fewAt E n (d' + 1)) (d' + 1)).getD f 0 < (prL (fewAt E n (d' + 1)) (d' + 1)).length := frs_lt _ _ _ f hf
  rw [k3, k2 _ hq]
  exact em_r _
