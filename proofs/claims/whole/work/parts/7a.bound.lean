/-! six FEW at most -/
theorem mst_n {qs ks as : List Nat} {n d a : Nat} {rows F P : List (List Nat)} (h : stp rows (mnl qs n ks a) = none) : mst qs n d ks (a :: as) rows F P = mst qs n d ks as rows F P := by
  rw [mst, fcL_eq, h]
theorem mst_y {qs ks as r : List Nat} {n d a : Nat} {rows F P : List (List Nat)} (h : stp rows (mnl qs n ks a) = some r) : mst qs n d ks (a :: as) rows F P = mst qs n d ks as (rows ++ [r]) (F ++ [d :: spz ks (mnl qs n ks a)]) (P ++ [F.length :: mnl qs n ks a]) := by
  rw [mst, fcL_eq, h]
  show (fcR (rows ++ [r]) fun rows' => fcL (spz ks (mnl qs n ks a)) fun s => fcR (F ++ [d :: s]) fun F' => fcR (P ++ [F.length :: mnl qs n ks a]) fun P' => mst qs n d ks as rows' F' P') = _
  rw [fcR_eq, fcL_eq, fcR_eq, fcR_eq]
theorem mst_len {qs ks : List Nat} {n d : Nat} : ∀ (as : List Nat) (rows F P : List (List Nat)), F.length ≤ (mst qs n d ks as rows F P).1.length
  | [], _, _, _ => Nat.le_refl _
  | a :: as, rows, F, P => by
    cases h : stp rows (mnl qs n ks a) with
    | none => rw [mst_n h]; exact mst_len as rows F P
    | some r =>
      rw [mst_y h]
      have := mst_len (qs := qs) (ks := ks) (n := n) (d := d) as (rows ++ [r]) (F ++ [d :: spz ks (mnl qs n ks a)]) (P ++ [F.length :: mnl qs n ks a])
      rw [List.length_append] at this
      omega
theorem dgs_s (qs : List Nat) (n m d : Nat) (F : List (List Nat)) (PS : List (List (List Nat))) : dgs qs n (m + 1) d F PS = dgs qs n m (d + 1) (mst qs n d (LYL.getD d []) (LYL.getD d []) (elm (cnd d (LYL.getD d []) PS 0 F) []) F (cnd d (LYL.getD d []) PS 0 F)).1 (PS ++ [(mst qs n d (LYL.getD d []) (LYL.getD d []) (elm (cnd d (LYL.getD d []) PS 0 F) []) F (cnd d (LYL.getD d []) PS 0 F)).2]) := by
  rw [dgs, fcR_eq, fcR_eq]
theorem dgs_len {qs : List Nat} {n : Nat} : ∀ (m d : Nat) (F : List (List Nat)) (PS : List (List (List Nat))), F.length ≤ (dgs qs n m d F PS).1.length
  | 0, _, _, _ => Nat.le_refl _
  | m + 1, d, F, PS => by
    rw [dgs_s]
    exact Nat.le_trans (mst_len _ _ _ _) (dgs_len m _ _ _)
theorem pvL_apX (E : Nat → tn) (n : Nat) {L X : List (Nat × Nat)} : ∀ l : List Nat, (∀ i, i ∈ l → i < L.length) → pvL E n (L ++ X) l = pvL E n L l
  | [], _ => rfl
  | i :: l, h => by
    rw [pvL_c, pvL_c, pvL_apX E n l (fun j hj => h j (by simp [hj]))]
    unfold fwP
    rw [getD_ap (h i (by simp))]
theorem P1_ap {E : Nat → tn} {n e : Nat} {L X : List (Nat × Nat)} {ls ps : List (List Nat)} (h : F2 (P1 E n L e) ls ps) (hm : ∀ l ∈ ls, ∀ j, j ∈ l → j < L.length) : F2 (P1 E n (L ++ X) e) ls ps := F2_mp h (fun l hl p hp => ⟨hp.1, hp.2.1, fun y hy => by rw [pvL_apX E n l (hm l hl)]; exact hp.2.2 y hy⟩)
theorem fwS_X (E : Nat → tn) (n d : Nat) (L : List (Nat × Nat)) : ∀ j, ∃ X, fwS E n d L j = L ++ X
  | 0 => ⟨[], (List.append_nil L).symm⟩
  | j + 1 => by
    obtain ⟨X, hX⟩ := fwS_X E n d L j
    by_cases q : inS (FV E n (fwS E n d L j) d) (frl E n (fwS E n d L j) d).length (wd d) (mnv E n d j)
    · exact ⟨X, by rw [fwS_in q, hX]⟩
    · exact ⟨X ++ [(d, fst9 d + j)], by rw [fwS_out q, hX, List.append_assoc]⟩
/-- the mean by lists -/
theorem mnl_v {E : Nat → tn} {n m d j : Nat} (hG : GP E n) (hm : btS m (gS E n)) (hd : d ≤ 6) (hj : j < wd d) : vok (wd d) (mnl ((bts m).map fun c => TQ.getD c 0) (iv n) (LYL.getD d []) (ly d j)) ∧ ∀ y, y < wd d → wv (mnl ((bts m).map fun c => TQ.getD c 0) (iv n) (LYL.getD d []) (ly d j)) y = mnv E n d j y := by
  obtain ⟨l1, l2⟩ := LYL_d hd
  have h84 := (wd_6 d (List.mem_range.mpr (by omega))).2
  unfold mnl
  rw [fcL_eq]
  have hl : ((LYL.getD d []).map fun b => svn b (((bts m).map fun c => TQ.getD c 0).map (imk (ly d j / 81) (ly d j / 9 % 9) (ly d j % 9))) * iv n % 32003).length = wd d := by rw [List.length_map, l1]
  refine ⟨⟨hl, fun k => ?_⟩, fun y hy => ?_⟩
  · by_cases q : k < wd d
    · rw [getD_mapl _ k (by rw [l1]; exact q)]; exact Nat.mod_lt _ (by decide)
    · rw [getD_out (by rw [hl]; omega)]; decide
  · unfold wv mnv
    rw [getD_mapl _ y (by rw [l1]; exact hy), l2 y hy, List.map_map]
    exact mnl_ok (x := fst9 d + j) hG hm hd (by omega) hy
theorem mst_ok {E : Nat → tn} {n m d : Nat} {L : List (Nat × Nat)} (hG : GP E n) (hm : btS m (gS E n)) (h1 : 1 ≤ d) (h6 : d ≤ 6) (hL : LOd L d) : ∀ (k j : Nat) (rows F P : List (List Nat)), j + k = wd d → FO E n (fwS E n d L j) F → F2 (P1 E n (fwS E n d L j) d) (prL (fwS E n d L j) d) P → LR (FV E n (fwS E n d L j) d) (frl E n (fwS E n d L j) d).length (wd d) rows → FO E n (fwS E n d L (wd d)) (mst ((bts m).map fun c => TQ.getD c 0) (iv n) d (LYL.getD d []) ((LYL.getD d []).drop j) rows F P).1 ∧ F2 (P1 E n (fwS E n d L (wd d)) d) (prL (fwS E n d L (wd d)) d) (mst ((bts m).map fun c => TQ.getD c 0) (iv n) d (LYL.getD d []) ((LYL.getD d []).drop j) rows F P).2 := by
  obtain ⟨l1, l2⟩ := LYL_d h6
  intro k
  induction k with
  | zero =>
    intro j rows F P hj hF hP _
    have : j = wd d := by omega
    subst this
    rw [List.drop_eq_nil_of_le (by rw [l1]; exact Nat.le_refl _)]
    exact ⟨hF, hP⟩
  | succ k ih =>
    intro j rows F P hj hF hP hR
    have hjd : j < wd d := by omega
    have hjl : j < (LYL.getD d []).length := by rw [l1]; exact hjd
    have hg : (LYL.getD d [])[j] = ly d j := by
      rw [← l2 j hjd, List.getD_eq_getElem?_getD (l := LYL.getD d []), List.getElem?_eq_getElem hjl]; rfl
    rw [List.drop_eq_getElem_cons hjl, hg]
    obtain ⟨v1, v2⟩ := mnl_v (j := j) hG hm h6 hjd
    have hO := LOd_S (E := E) (n := n) hL h1 h6 j (by omega)
    have hpx := (fst_pD (show d ≤ 8 by omega) hjd)
    generalize hw : mnl ((bts m).map fun c => TQ.getD c 0) (iv n) (LYL.getD d []) (ly d j) = w at *
    generalize hLy : fwS E n d L j = Ly at *
    have hs := stp_ok (V' := fun f => if f = (frl E n Ly d).length then mnv E n d j else FV E n Ly d f) hR v1 (fun f hf k _ => congrFun (if_neg (show ¬ f = (frl E n Ly d).length by omega)) k) (fun k hk => by show em ((if (frl E n Ly d).length = (frl E n Ly d).length then mnv E n d j else FV E n Ly d (frl E n Ly d).length) k) _; rw [if_pos rfl, v2 k hk]; exact em_r _)
    try dsimp only at hs
    rw [if_pos rfl] at hs
    rcases hs with ⟨e, hin⟩ | ⟨r, e, hnin, hLR⟩
    · rw [mst_n (by rw [hw]; exact e)]
      refine ih (j + 1) rows F P (by omega) ?_ ?_ ?_
      all_goals rw [fwS_in (by rw [hLy]; exact hin), hLy]
      · exact hF
      · exact hP
      · exact hR
    · rw [mst_y (by rw [hw]; exact e), hw]
      have hfw : fwS E n d L (j + 1) = Ly ++ [(d, fst9 d + j)] := by rw [fwS_out (by rw [hLy]; exact hnin), hLy]
      have hFP : fwP E n (Ly ++ [(d, fst9 d + j)]) Ly.length = PR (meanM E n (fst9 d + j)) := by unfold fwP; rw [getD_la]
      have hhom : hom d (PR (meanM E n (fst9 d + j))) := by have := meanM_hom hG hpx.1; rw [hpx.2] at this; exact this
      have hPy : ∀ y, y < wd d → PR (meanM E n (fst9 d + j)) (ly d y) = mnv E n d j y := fun y hy => by
        unfold ly mnv
        rw [PR_ax _ (fst_pD (show d ≤ 8 by omega) hy).1]
      refine ih (j + 1) _ _ _ (by omega) ?_ ?_ ?_
      all_goals rw [hfw]
      · refine ⟨by rw [List.length_append, List.length_append, hF.1]; rfl, fun i hi => ?_⟩
        by_cases q : i < Ly.length
        · rw [getD_ap (by rw [hF.1]; exact q), fwd_ap q]
          unfold fwP
          rw [getD_ap q]
          exact hF.2 i q
        · have : i = Ly.length := by rw [List.length_append] at hi; simp at hi; omega
          subst this
          rw [show (F ++ [d :: spz (LYL.getD d []) w]).getD Ly.length [] = d :: spz (LYL.getD d []) w from by rw [← hF.1]; exact getD_la]
          refine ⟨by unfold fwd; rw [getD_la]; rfl, fun a => ?_⟩
          rw [hFP]
          exact sp_ok h6 hhom v1 (fun y hy => by rw [hPy y hy, v2 y hy]; exact em_r _) a
      · rw [prL_ap hO h1 h6 hjd]
        refine F2_ap (P1_ap hP (fun l hl => (prL_mm hO.1 l hl).2)) ⟨⟨by rw [hF.1]; rfl, v1, fun y hy => ?_⟩, trivial⟩
        rw [pvL_c]
        show em (cv (fwP E n (Ly ++ [(d, fst9 d + j)]) Ly.length) oneP _) _
        rw [cv_1r, hFP, hPy y hy]
        show em _ (wv w y)
        rw [v2 y hy]
        exact em_r _
      · rw [frl_ap hO h1 h6 hjd hnin, show (frl E n Ly d ++ [(prL Ly d).length]).length = (frl E n Ly d).length + 1 from by simp]
        obtain ⟨a1, a2, x, c1, c2, c3, c4, c5⟩ := hLR
        have hV : ∀ f, f < (frl E n Ly d).length + 1 → ∀ k, k < wd d → em ((if f = (frl E n Ly d).length then mnv E n d j else FV E n Ly d f) k) (FV E n (Ly ++ [(d, fst9 d + j)]) d f k) := fun f hf k hk => by
          unfold FV
          rw [frl_ap hO h1 h6 hjd hnin]
          by_cases q : f = (frl E n Ly d).length
          · rw [if_pos q, q, getD_la, pvv_la hO h1 h6 hjd hk]; exact em_r _
          · have hlt : f < (frl E n Ly d).length := by omega
            have hq : (frl E n Ly d).getD f 0 < (prL Ly d).length := frs_lt _ _ _ f hlt
            rw [if_neg q, getD_ap hlt, pvv_ap hO h1 h6 hjd hq]; exact em_r _
        exact ⟨a1, a2, x, fun f hf k hk => em_t (c1 f hf k hk) (em_sm _ (fun g hg => em_mul (em_r _) (hV g hg k hk))), c2, c3, fun g hg => inS_cg (fun f hf k hk => em_r _) (hV g hg) (c4 g hg), Ind_cg hV c5⟩
