def PSo (E : Nat → tn) (n : Nat) (L : List (Nat × Nat)) (d : Nat) (PS : List (List (List Nat))) : Prop := PS.length = d ∧ ∀ e, e < d → F2 (P1 E n L e) (prL L e) (PS.getD e [])
theorem dgs_ok {E : Nat → tn} {n m : Nat} (hG : GP E n) (hm : btS m (gS E n)) : ∀ (k d : Nat) (F : List (List Nat)) (PS : List (List (List Nat))), d + k = 6 → FO E n (fewAt E n d) F → PSo E n (fewAt E n d) (d + 1) PS → (dgs ((bts m).map fun c => TQ.getD c 0) (iv n) k (d + 1) F PS).1.length ≤ 6 → FO E n (fewAt E n 6) (dgs ((bts m).map fun c => TQ.getD c 0) (iv n) k (d + 1) F PS).1 ∧ PSo E n (fewAt E n 6) 7 (dgs ((bts m).map fun c => TQ.getD c 0) (iv n) k (d + 1) F PS).2 := by
  intro k
  induction k with
  | zero =>
    intro d F PS hd hF hP _
    have : d = 6 := by omega
    subst this
    exact ⟨hF, hP⟩
  | succ k ih =>
    intro d F PS hd hF hP h6
    have hlen : (fewAt E n d).length ≤ 6 := by
      rw [← hF.1]
      exact Nat.le_trans (dgs_len _ _ _ _) h6
    have hLd := LOd_at E n d (by omega)
    have hLu := LOd_up hLd (Nat.le_succ d)
    rw [dgs_s] at h6 ⊢
    have hc : F2 (P1 E n (fewAt E n d) (d + 1)) (prL (fewAt E n d) (d + 1)) (cnd (d + 1) (LYL.getD (d + 1) []) PS 0 F) := by
      have h1 := cnd_ok (d := d + 1) hG (by rw [show d + 1 - 1 = d from by omega]; exact hLd) (by omega) (by omega) hF hP.2 (fewAt E n d).length 0 (by omega)
      rw [List.drop_zero] at h1
      have h2 := ctr_ok (fewAt E n d) (d + 1) (fewAt E n d).length 0
      rw [Nat.zero_add] at h2
      rw [ctp_all hLd.1 hlen (by omega), h2]
      exact h1
    generalize hcs : cnd (d + 1) (LYL.getD (d + 1) []) PS 0 F = cs at *
    have hcl := F2_len hc
    have hr := elm_ok (V := pvv E n (fewAt E n d) (d + 1)) (W := wd (d + 1)) (cs := cs) (fun q hq => by
      obtain ⟨-, g2, g3⟩ := F2_get (x := []) (y := []) hc q hq
      exact ⟨g2, g3⟩) cs.length 0 [] (by omega) ⟨rfl, fun f hf => absurd hf (Nat.not_lt_zero _), fun _ _ => 0, EL_nil _ _ _ _ _⟩
    rw [List.drop_zero, ← hcl] at hr
    obtain ⟨m1, m2⟩ := mst_ok (L := fewAt E n d) hG hm (show 1 ≤ d + 1 by omega) (by omega) hLu (wd (d + 1)) 0 (elm cs []) F cs (by omega) hF hc hr
    rw [List.drop_zero] at m1 m2
    refine ih (d + 1) _ _ (by omega) m1 ⟨by rw [List.length_append, hP.1]; rfl, fun e he => ?_⟩ h6
    by_cases q : e = d + 1
    · subst q
      rw [show (PS ++ [(mst ((bts m).map fun c => TQ.getD c 0) (iv n) (d + 1) (LYL.getD (d + 1) []) (LYL.getD (d + 1) []) (elm cs []) F cs).2]).getD (d + 1) [] = (mst ((bts m).map fun c => TQ.getD c 0) (iv n) (d + 1) (LYL.getD (d + 1) []) (LYL.getD (d + 1) []) (elm cs []) F cs).2 from by
        have := getD_la (l := PS) (x := (mst ((bts m).map fun c => TQ.getD c 0) (iv n) (d + 1) (LYL.getD (d + 1) []) (LYL.getD (d + 1) []) (elm cs []) F cs).2) (z := [])
        rw [hP.1] at this
        exact this]
      exact m2
    · have hlt : e < d + 1 := by omega
      rw [getD_ap (by rw [hP.1]; exact hlt)]
      obtain ⟨k1, -, -⟩ := fwS_keep (E := E) (n := n) hLu (show 1 ≤ d + 1 by omega) (by omega) hlt (wd (d + 1)) (Nat.le_refl _)
      obtain ⟨X, hX⟩ := fwS_X E n (d + 1) (fewAt E n d) (wd (d + 1))
      show F2 (P1 E n (fwS E n (d + 1) (fewAt E n d) (wd (d + 1))) e) (prL (fwS E n (d + 1) (fewAt E n d) (wd (d + 1))) e) _
      rw [k1, hX]
      exact P1_ap (hP.2 e hlt) (fun l hl => (prL_mm hLd.1 l hl).2)
theorem chF_all : ∀ e ∈ GTB, chF e.1 = true := by
  have hs : ∀ k, k < 14 → ((GTB.drop (7 * k)).take 7).all (fun e => chF e.1) = true := fun k hk => by
    rcases (by omega : k = 0 ∨ k = 1 ∨ k = 2 ∨ k = 3 ∨ k = 4 ∨ k = 5 ∨ k = 6 ∨ k = 7 ∨ k = 8 ∨ k = 9 ∨ k = 10 ∨ k = 11 ∨ k = 12 ∨ k = 13) with rfl | rfl | rfl | rfl | rfl | rfl | rfl | rfl | rfl | rfl | rfl | rfl | rfl | rfl
    · exact chF_0
    · exact chF_1
    · exact chF_2
    · exact chF_3
    · exact chF_4
    · exact chF_5
    · exact chF_6
    · exact chF_7
    · exact chF_8
    · exact chF_9
    · exact chF_10
    · exact chF_11
    · exact chF_12
    · exact chF_13
  have hl : GTB.length = 98 := by decide +kernel
  intro e he
  obtain ⟨i, hi, ei⟩ := List.mem_iff_getElem.mp he
  have hi98 : i < 98 := by rw [← hl]; exact hi
  refine List.all_eq_true.mp (hs (i / 7) (by omega)) e ?_
  rw [← ei, List.mem_iff_getElem]
  refine ⟨i % 7, by rw [List.length_take, List.length_drop, hl]; omega, ?_⟩
  rw [List.getElem_take, List.getElem_drop]
  congr 1
  omega
/-- six FEW at most, and no more PRODUCTS than there is room for -/
theorem BD_all {E : Nat → tn} {n : Nat} (hG : GP E n) : BD (fewAt E n 6) := by
  obtain ⟨e, he, hm⟩ := sub_any hG
  have hc := chF_all e he
  have hfl : fwL e.1 = dgs ((bts e.1).map fun c => TQ.getD c 0) (iv n) 6 1 [] [[[6, 1]]] := by
    unfold fwL
    rw [fcL_eq, frc_eq, List.length_map, bts_len hG hm]
  unfold chF at hc
  rw [hfl] at hc
  have hc2 : (Nat.ble (dgs ((bts e.1).map fun c => TQ.getD c 0) (iv n) 6 1 [] [[[6, 1]]]).1.length 6 && (List.range 7).all fun d => Nat.ble ((dgs ((bts e.1).map fun c => TQ.getD c 0) (iv n) 6 1 [] [[[6, 1]]]).2.getD d []).length (gmo d)) = true := hc
  rw [Bool.and_eq_true] at hc2
  have h6 := Nat.le_of_ble_eq_true hc2.1
  have hp0 : prL ([] : List (Nat × Nat)) 0 = [[]] := prL_0 (fun i hi => absurd hi (Nat.not_lt_zero _))
  obtain ⟨r1, r2⟩ := dgs_ok hG hm 6 0 [] [[[6, 1]]] (by omega) ⟨rfl, fun i hi => absurd hi (Nat.not_lt_zero _)⟩ ⟨rfl, fun e he => by
    have : e = 0 := by omega
    subst this
    show F2 (P1 E n [] 0) (prL [] 0) [[6, 1]]
    rw [hp0]
    refine ⟨⟨rfl, ⟨rfl, fun k => ?_⟩, fun y hy => ?_⟩, trivial⟩
    · cases k with
      | zero => show 1 < 32003; decide
      | succ k => show ([] : List Nat).getD k 0 < 32003; rw [getD_out (Nat.zero_le _)]; decide
    · have : y = 0 := Nat.lt_one_iff.mp hy
      subst this
      exact em_r _⟩ h6
  refine ⟨by rw [← r1.1]; exact h6, fun d hd => ?_⟩
  rw [F2_len (r2.2 d (by omega))]
  exact Nat.le_of_ble_eq_true (List.all_eq_true.mp hc2.2 d (List.mem_range.mpr (by omega)))
