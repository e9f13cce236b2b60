/-! both sides: about, group -/
theorem CI_Mi {σ : mS} {S : aSt} (h : CI σ S) : CMi σ (sE S) (sn S) := ⟨h.2.1.2.2.1, h.2.1.2.2.2.2.2.2⟩
theorem SIM_about {N : Nat} (hN : 1000 ≤ N) (a : Int) : SIM (f_X11_about N a) (f_X12_about N a) := SIM_i (fun σ S hC hP => by
  by_cases q0 : a = 0
  · subst q0
    exact SIM_n (v := (sn S : Int)) hC hP (by unfold f_X11_about; rw [if_pos rfl, CI_n hC]) (fun σ1 h1 => by unfold f_X12_about; rw [if_pos rfl, (RI_G h1).1])
  by_cases q1 : a = 1
  · subst q1
    exact SIM_n (v := knd (sE S) (sn S)) hC hP (by unfold f_X11_about; rw [if_neg (by decide), if_pos rfl, X1_kind_eq (by omega) hC.2.1, Option.bind_some]; rfl) (fun σ1 h1 => X12_kind_eq (by omega) (RI_G h1))
  by_cases q2 : a = 2
  · subst q2
    exact SIM_n (v := ((clo (sE S) (sn S) (sn S)).2 : Int)) hC hP (by unfold f_X11_about; rw [if_neg (by decide), if_neg (by decide), if_pos rfl, show σ 5 0 2 = ((clo (sE S) (sn S) (sn S)).2 : Int) from hC.2.1.2.2.2.2.1.1]) (fun σ1 h1 => by unfold f_X12_about; rw [if_neg (by decide), if_neg (by decide), if_pos rfl, h1.2.2.2.1.1])
  by_cases q3 : a = 3
  · subst q3
    exact SIM_n (v := ((sc S).length : Int)) hC hP (by unfold f_X11_about; rw [if_neg (by decide), if_neg (by decide), if_neg (by decide), if_pos rfl, (CI_s hC).1]) (fun σ1 h1 => by unfold f_X12_about; rw [if_neg (by decide), if_neg (by decide), if_neg (by decide), if_pos rfl, h1.2.2.1.1])
  by_cases q4 : a = 4
  · subst q4
    exact SIM_n (v := (ct (fun g => mir (sE S g)) (sn S) : Int)) hC hP (by unfold f_X11_about; rw [if_neg (by decide), if_neg (by decide), if_neg (by decide), if_neg (by decide), if_pos rfl, show σ 5 0 3 = (ct (fun g => mir (sE S g)) (sn S) : Int) from hC.2.1.2.2.2.2.2.1]) (fun σ1 h1 => X12_mirs_eq (by omega) (RI_G h1))
  by_cases q5 : a = 5
  · subst q5
    refine ⟨bi (byM (sE S) (sn S)), σ, S, ?_, okC_rfl, hC, hP, fun σ1 h1 => ?_⟩
    · unfold f_X11_about
      rw [if_neg (by decide), if_neg (by decide), if_neg (by decide), if_neg (by decide), if_neg (by decide), if_pos rfl, X1_isMade_eq hN (CI_Mi hC), Option.bind_some]
      try dsimp only
      cases byM (sE S) (sn S)
      · rw [if_pos bi_f]; rfl
      · rw [if_neg (by decide)]; rfl
    · obtain ⟨s', f1, f2⟩ := X12_byM_eq (N := N) hN (RI_G h1)
      refine ⟨s', ?_, okR_fr f2 (by decide), RI_k h1 (fq_of f2 (by decide)) (by decide) (fun k _ => by simp) (fun c _ => f2 81 _ _ (by decide))⟩
      unfold f_X12_about
      rw [if_neg (by decide), if_neg (by decide), if_neg (by decide), if_neg (by decide), if_neg (by decide), if_pos rfl, f1, Option.bind_some]
      try dsimp only
      cases byM (sE S) (sn S)
      · rw [if_pos bi_f]; rfl
      · rw [if_neg (by decide)]; rfl
  by_cases q6 : a = 6
  · subst q6
    obtain ⟨s, e1, e2, e3, e4⟩ := CI_find (N := N) hN hC
    refine ⟨((sF S).length : Int), s, S, ?_, okC_fr e2 (by decide), e3, hP, fun σ1 h1 => ⟨σ1, ?_, okR_rfl, h1⟩⟩
    · unfold f_X11_about
      rw [if_neg (by decide), if_neg (by decide), if_neg (by decide), if_neg (by decide), if_neg (by decide), if_neg (by decide), if_pos rfl, e1, Option.bind_some, show s 42 0 0 = ((sF S).length : Int) from e4.1.1]
    · unfold f_X12_about
      rw [if_neg (by decide), if_neg (by decide), if_neg (by decide), if_neg (by decide), if_neg (by decide), if_neg (by decide), if_pos rfl, h1.2.2.2.2.2.1.1.1]
  by_cases q7 : a = 7
  · subst q7
    obtain ⟨s, e1, e2, e3, e4⟩ := CI_find (N := N) hN hC
    have h6 := (sF_ok e3).1.1
    refine ⟨dpr (sF S) (sF S).length, s, S, ?_, okC_fr e2 (by decide), e3, hP, fun σ1 h1 => ⟨σ1, ?_, okR_rfl, h1⟩⟩
    · unfold f_X11_about
      rw [if_neg (by decide), if_neg (by decide), if_neg (by decide), if_neg (by decide), if_neg (by decide), if_neg (by decide), if_neg (by decide), if_pos rfl, e1, Option.bind_some, X0_dtg_eq (L := sF S) hN e4.1 h6, Option.bind_some]
    · unfold f_X12_about
      rw [if_neg (by decide), if_neg (by decide), if_neg (by decide), if_neg (by decide), if_neg (by decide), if_neg (by decide), if_neg (by decide), if_pos rfl, X12_dtg_eq hN h1.2.2.2.2.2.1.1 h6, Option.bind_some]
  · exact SIM_n (v := -1) hC hP (by unfold f_X11_about; rw [if_neg q0, if_neg q1, if_neg q2, if_neg q3, if_neg q4, if_neg q5, if_neg q6, if_neg q7]) (fun σ1 h1 => by unfold f_X12_about; rw [if_neg q0, if_neg q1, if_neg q2, if_neg q3, if_neg q4, if_neg q5, if_neg q6, if_neg q7]))
/-- behind the group's making: what the reference finds -/
theorem X12_finds_all {N m : Nat} {M : Nat → tn} {s2 : mS} (hN : 1000 ≤ N) (hB : RGr s2 M m) : ∃ s', f_X12_finds N s2 = some s' ∧ fq [78, 79, 81, 83, 84, 85, 86, 87, 88, 89, 90, 91, 92] [10, 11, 14, 15, 16, 17, 19, 26, 27] s2 s' ∧ (∀ c, c < 5832 → s' 81 0 c = s2 81 0 c) ∧ RGr s' M m ∧ RS s' M m (sgs M m (2 ^ m)) ∧ RCl s' (bE (bfs M m)) (bfs M m).length ∧ RFw s' (bE (bfs M m)) (bfs M m).length (fewAt (bE (bfs M m)) (bfs M m).length 6) := by
  have hG2 := RGr_G hB
  obtain ⟨s3, a1, a2, a3, a4, a5, a6⟩ := X12_classes_ok (N := N) (by omega) hG2
  have f23 : fq [78] [10] s2 s3 := ⟨fun r i k hr h7 => a2 r i k (by simp at hr ⊢; omega), fun k hk => a3 k (by simpa using hk)⟩
  have hB3 := RGr_fq hB f23 (by decide) (by decide)
  obtain ⟨s4, b1, b2, b3⟩ := X12_findSigns_eq (N := N) (by omega) hB3
  have hB4 := RGr_fq hB3 b2 (by decide) (by decide)
  have hG4 := RGr_G hB4
  obtain ⟨s5, c1, c2, c3⟩ := X12_findFew_eq (N := N) hN hG4 (BD_all hG4.2.2)
  have R3 : RCl s3 (bE (bfs M m)) (bfs M m).length := ⟨a4, a5⟩
  refine ⟨s5, ?_, fq_trans (fq_sub f23 (by decide) (by decide)) (fq_trans (fq_sub b2 (by decide) (by decide)) (fq_sub c2.1 (by decide) (by decide))), fun c hc => ?_, RGr_fq hB4 c2.1 (by decide) (by decide), RS_fq b3 c2.1 (by decide) (by decide), RCl_fq (RCl_fq R3 b2 (by decide) (by decide)) c2.1 (by decide) (by decide), c3⟩
  · rw [a1, b1, Option.bind_some, c1, Option.bind_some]
  · rw [c2.2 c hc, b2.1 81 _ _ (by decide) (by decide), f23.1 81 _ _ (by decide) (by decide)]
theorem SIM_group {N : Nat} (hN : 1000 ≤ N) : SIM (f_X11_group N) (f_X12_group N) := SIM_i (fun σ S hC hP => by
  obtain ⟨s, e1, e2, e3, e4, e5, e6⟩ := X11_makeGroup_eq (N := N) hN hC.1
  refine ⟨((bfs (mkM (sT S)) (mkl (sT S) 4).length).length : Int), s, (sT S, mkM (sT S), (mkl (sT S) 4).length, sP S, sQ S, sW S, sAc S, sp S, sL S), ?_, okC_fr e5 (by decide), ?_, hP, fun σ1 h1 => ?_⟩
  · unfold f_X11_group
    rw [e1, Option.bind_some, show s 5 0 0 = ((bfs (mkM (sT S)) (mkl (sT S) 4).length).length : Int) from e2.2.2.1.1]
  · obtain ⟨a, b, c, d, e, f, g, i, j⟩ := hC
    exact ⟨TC_ag a (ag_fr e5 (by decide)), e2, e3, CPw_ag d (ag_fr e5 (by decide)), CLy_ag e (ag_fr e5 (by decide)), ⟨fun i hi => by rw [e5 49 _ _ (by decide)]; exact f.1 i hi, Or.inl e4⟩, CP_ag g (ag_fr e5 (by decide)), CPt_ag i (ag_fr e5 (by decide)), IMC_ag j (ag_fr e5 (by decide))⟩
  · have hG1 := RI_G h1
    obtain ⟨s2, a1, a2, a3, a4, a5⟩ := X12_group_ok (N := N) (by omega) h1.1 (by rw [hG1.2.1 0 hG1.2.2.1]; exact hG1.2.2.2.1)
    have f12 : fq [74, 75, 76, 77] [6, 7] σ1 s2 := ⟨fun r i k hr h7 => a4 r i k (by simp at hr ⊢; omega), fun k hk => a5 k (fun z => hk (by simp [z])) (fun z => hk (by simp [z]))⟩
    obtain ⟨s', b1, b2, b3, b4, b5, b6, b7⟩ := X12_finds_all (N := N) (M := mkM (sT S)) (m := (mkl (sT S) 4).length) hN ⟨a2, a3⟩
    refine ⟨s', ?_, okR_t (okR_fq f12 (by decide)) (okR_fq b2 (by decide)), ?_⟩
    · rw [a1, b1, Option.bind_some, (RGr_G b4).1]
    · obtain ⟨a, b, c, d, e, f, g, i⟩ := h1
      exact ⟨TR_fq (TR_fq a f12 (by decide) (by decide)) b2 (by decide) (by decide), b4, b5, b6, RP_fD (RP_fD e (fun c _ => f12.1 81 _ _ (by decide) (by decide))) b3, b7, RPt_fq (RPt_fq g f12 (by decide) ⟨by decide, by decide⟩) b2 (by decide) ⟨by decide, by decide⟩, IMR_fq (IMR_fq i f12 (by decide) (by decide) (by decide) (by decide)) b2 (by decide) (by decide) (by decide) (by decide)⟩)
