/-! both sides: turn, drop, images, few, laws, made, about, group -/
theorem SIM_turn {N : Nat} (i a b c : Int) : SIM (f_X11_turn N i a b c) (f_X12_turn N i a b c) := SIM_i (fun σ S hC hP => by
  by_cases q : 0 ≤ i ∧ i < 4 ∧ tok (a, b, c)
  · obtain ⟨s, e1, e2, e3⟩ := (X11_turn_eq (N := N) hC.1).1 q
    refine ⟨1, s, (tst (sT S) i.toNat (some (a, b, c)), sM S, sk S, sP S, sQ S, sW S, sAc S, sp S, sL S), e1, okC_fr e2 (by decide), ?_, hP, fun σ1 h1 => ?_⟩
    · have hG := CI_G hC
      obtain ⟨-, b, c, d, e, f, g, i, j⟩ := hC
      exact ⟨e3, CGr_ag b (ag_fr e2 (by decide)), CS_ag c (ag_fr e2 (by decide)), CPw_ag d (ag_fr e2 (by decide)), CLy_ag e (ag_fr e2 (by decide)), CFl_ag hG f (ag_fr e2 (by decide)), CP_ag g (ag_fr e2 (by decide)), CPt_ag i (ag_fr e2 (by decide)), IMC_ag j (ag_fr e2 (by decide))⟩
    · obtain ⟨s', f1, f2, f3⟩ := (X12_turn_eq (N := N) h1.1).1 q
      refine ⟨s', f1, okR_fr f2 (by decide), ?_⟩
      have fq2 : fq [72, 73] [] σ1 s' := fq_of f2 (by decide)
      obtain ⟨-, b, c, d, e, f, g, i⟩ := h1
      exact ⟨f3, RGr_fq b fq2 (by decide) (fun k _ => by simp), RS_fq c fq2 (by decide) (by simp), RCl_fq d fq2 (by decide) (by simp), RP_fD e (fun c _ => f2 81 _ _ (by decide)), RFw_fq f fq2 (by decide) (by decide) (by simp), RPt_fq g fq2 (by decide) ⟨by simp, by simp⟩, IMR_fq i fq2 (by decide) (by decide) (by simp) (by simp)⟩
  · exact SIM_n (v := 0) hC hP ((X11_turn_eq hC.1).2 q) (fun σ1 h1 => (X12_turn_eq h1.1).2 q))
theorem SIM_drop {N : Nat} (i : Int) : SIM (f_X11_drop N i) (f_X12_drop N i) := SIM_i (fun σ S hC hP => by
  by_cases q : 0 ≤ i ∧ i < 4 ∧ (sT S i.toNat).isSome = true
  · obtain ⟨s, e1, e2, e3⟩ := (X11_drop_eq (N := N) hC.1).1 q
    refine ⟨1, s, (tst (sT S) i.toNat none, sM S, sk S, sP S, sQ S, sW S, sAc S, sp S, sL S), e1, okC_fr e2 (by decide), ?_, hP, fun σ1 h1 => ?_⟩
    · have hG := CI_G hC
      obtain ⟨-, b, c, d, e, f, g, i, j⟩ := hC
      exact ⟨e3, CGr_ag b (ag_fr e2 (by decide)), CS_ag c (ag_fr e2 (by decide)), CPw_ag d (ag_fr e2 (by decide)), CLy_ag e (ag_fr e2 (by decide)), CFl_ag hG f (ag_fr e2 (by decide)), CP_ag g (ag_fr e2 (by decide)), CPt_ag i (ag_fr e2 (by decide)), IMC_ag j (ag_fr e2 (by decide))⟩
    · obtain ⟨s', f1, f2, f3⟩ := (X12_drop_eq (N := N) h1.1).1 q
      refine ⟨s', f1, okR_fr f2 (by decide), ?_⟩
      have fq2 : fq [72] [] σ1 s' := fq_of f2 (by decide)
      obtain ⟨-, b, c, d, e, f, g, i⟩ := h1
      exact ⟨f3, RGr_fq b fq2 (by decide) (fun k _ => by simp), RS_fq c fq2 (by decide) (by simp), RCl_fq d fq2 (by decide) (by simp), RP_fD e (fun c _ => f2 81 _ _ (by decide)), RFw_fq f fq2 (by decide) (by decide) (by simp), RPt_fq g fq2 (by decide) ⟨by simp, by simp⟩, IMR_fq i fq2 (by decide) (by decide) (by simp) (by simp)⟩
  · exact SIM_n (v := 0) hC hP ((X11_drop_eq hC.1).2 q) (fun σ1 h1 => (X12_drop_eq h1.1).2 q))
theorem SIM_images {N : Nat} (hN : 1000 ≤ N) (a b c : Int) : SIM (f_X11_images N a b c) (f_X12_images N a b c) := SIM_i (fun σ S hC hP => by
  obtain ⟨s, e1, e2, e3⟩ := X2_find_eq (N := N) (pl := (a, b, c)) (by omega) (CI_n hC) (CI_G hC) (CI_E hC)
  refine ⟨((iml (sE S) (a, b, c) (sn S)).length : Int), s, (sT S, sM S, sk S, sP S, sQ S, sW S, true, (a, b, c), iml (sE S) (a, b, c) (sn S)), ?_, okC_fr e2 (by decide), ?_, hP, fun σ1 h1 => ?_⟩
  · unfold f_X11_images
    try dsimp only at e1
    rw [e1, Option.bind_some, e3.2.2.1.1]
  · have hG := CI_G hC
    obtain ⟨a', b, c, d, e, f, g, i, j⟩ := hC
    exact ⟨TC_ag a' (ag_fr e2 (by decide)), CGr_ag b (ag_fr e2 (by decide)), CS_ag c (ag_fr e2 (by decide)), CPw_ag d (ag_fr e2 (by decide)), CLy_ag e (ag_fr e2 (by decide)), CFl_ag hG f (ag_fr e2 (by decide)), CP_ag g (ag_fr e2 (by decide)), CPt_ag i (ag_fr e2 (by decide)), e3⟩
  · obtain ⟨s', f1, f2, f3⟩ := X12_images_eq (N := N) (pl := (a, b, c)) (by omega) (RI_G h1)
    refine ⟨s', f1, okR_fq f2 (by decide), ?_⟩
    obtain ⟨a', b, c, d, e, f, g, i⟩ := h1
    exact ⟨TR_fq a' f2 (by decide) (by decide), RGr_fq b f2 (by decide) (by decide), RS_fq c f2 (by decide) (by decide), RCl_fq d f2 (by decide) (by decide), RP_fD e (fun c _ => f2.1 81 _ _ (by decide) (by decide)), RFw_fq f f2 (by decide) (by decide) (by decide), RPt_fq g f2 (by decide) ⟨by decide, by decide⟩, f3⟩)
/-- the class finds the FEW -/
theorem CI_find {N : Nat} {σ : mS} {S : aSt} (hN : 1000 ≤ N) (hC : CI σ S) : ∃ s, f_X0_find N σ = some s ∧ fr LRf σ s ∧ CI s S ∧ CFw s (sE S) (sn S) := by
  have hG := CI_G hC
  obtain ⟨s, e1, e2, e3, e4, e5, e6, e7⟩ := X0_find_eq (N := N) hN hC.2.2.2.1 hC.2.2.2.2.1 hC.2.2.2.2.2.1.1 (BD_all hG) (CI_n hC) hG (CI_E hC) hC.2.2.2.2.2.1.2
  refine ⟨s, e1, e4, ?_, e2⟩
  obtain ⟨a, b, c, d, e, f, g, i, j⟩ := hC
  exact ⟨TC_ag a (ag_fr e4 (by decide)), CGr_ag b (ag_fr e4 (by decide)), CS_ag c (ag_fr e4 (by decide)), e6, e5, ⟨e7, Or.inr ⟨e3, e2⟩⟩, CP_ag g (ag_fr e4 (by decide)), CPt_ag i (ag_fr e4 (by decide)), IMC_ag j (ag_fr e4 (by decide))⟩
/-- behind the finding -/
theorem SIM_f {A B : mS → Option (Int × mS)} {N : Nat} {σ : mS} {S : aSt} {A' : mS → Option (Int × mS)} (hN : 1000 ≤ N) (hC : CI σ S) (hA : ∀ s, f_X0_find N σ = some s → A σ = A' s) (h : ∀ s, CI s S → CFw s (sE S) (sn S) → ∃ v s1 S', A' s = some (v, s1) ∧ okC s s1 ∧ CI s1 S' ∧ PI S' ∧ ∀ σ1, RI σ1 S → ∃ s', B σ1 = some (v, s') ∧ okR σ1 s' ∧ RI s' S') :
    ∃ v s S', A σ = some (v, s) ∧ okC σ s ∧ CI s S' ∧ PI S' ∧ ∀ σ1, RI σ1 S → ∃ s', B σ1 = some (v, s') ∧ okR σ1 s' ∧ RI s' S' := by
  obtain ⟨s, e1, e2, e3, e4⟩ := CI_find (N := N) hN hC
  obtain ⟨v, s1, S', a, b, c, d, e⟩ := h s e3 e4
  exact ⟨v, s1, S', (hA s e1).trans a, okC_t (okC_fr e2 (by decide)) b, c, d, e⟩
theorem sF_ok {σ : mS} {S : aSt} (h : CI σ S) : BD (sF S) ∧ LOd (sF S) 6 := ⟨BD_all (CI_G h), LOd_at _ _ 6 (Nat.le_refl _)⟩
noncomputable def fewT (N : Nat) (a b : Int) (s : mS) : Option (Int × mS) := Option.bind (f_X6_has N a s) fun ⟨v793, s792⟩ =>
    if v793 = 0 then some ((-2 : Int), s792) else Option.bind (f_X0_has N b s792) fun ⟨v797, s796⟩ =>
    if v797 = 0 then some ((-2 : Int), s796) else if (0 ≤ a ∧ a < 8) then Option.bind (f_X0_copyInto_r33 N a.toNat b s796) fun s806 => Option.bind (f_X6_degreeOf N a s806) fun ⟨v808, s807⟩ => some (v808, s807) else none
theorem SIM_few {N : Nat} (hN : 1000 ≤ N) (a b : Int) : SIM (f_X11_few N a b) (f_X12_few N a b) := SIM_i (fun σ S hC hP => by
  refine SIM_f (A' := fewT N a b) hN hC (fun s hs => by
      unfold f_X11_few
      rw [hs, Option.bind_some]
      rfl) (fun s hc hF => ?_)
  obtain ⟨hB, hL⟩ := sF_ok hc
  have h6 := hB.1
  have e42 : s 42 0 0 = ((sF S).length : Int) := hF.1.1
  by_cases q : 0 ≤ a ∧ a < 8
  · by_cases q2 : 0 ≤ b ∧ b < ((sF S).length : Int)
    · obtain ⟨p, rfl⟩ : ∃ g : Nat, a = (g : Int) := ⟨a.toNat, by omega⟩
      obtain ⟨i, rfl⟩ : ∃ g : Nat, b = (g : Int) := ⟨b.toNat, by omega⟩
      obtain ⟨s1, e1, e2, e3, e4⟩ := X0_copyInto_eq (N := N) (p := p) (i := i) hN (CI_G hc) hc.2.2.2.2.1 hF.1 hL hB hF.2 (show i < (sF S).length by omega)
      have hCP : CP s1 (pst (sP S) p (meanM (sE S) (sn S) ((sF S).getD i (0, 0)).2)) := fun p' hp' x hx => by
        unfold pst
        by_cases ep : p' = p
        · subst ep; rw [if_pos rfl]; exact e3 x hx
        · rw [if_neg ep, e4 p' ep x]; exact hc.2.2.2.2.2.2.1 p' hp' x hx
      refine SIM_w (A := fewT N (p : Int) (i : Int)) (B := f_X12_few N (p : Int) (i : Int)) (p := p) (Q := meanM (sE S) (sn S) ((sF S).getD i (0, 0)).2) (v := pdg (meanM (sE S) (sn S) ((sF S).getD i (0, 0)).2)) (s := s1) [33] [81] [] (by decide) (by decide) (by decide) hc hP (fun x _ => meanM_rg _ _ _ _) ?_ e2 hCP (fun σ1 h1 => ?_)
      · unfold fewT
        rw [X6_has_eq, if_pos q, Option.bind_some]
        try dsimp only
        rw [if_neg (by decide), X0_has_eq e42, if_pos q2, Option.bind_some]
        try dsimp only
        rw [if_neg (by decide), if_pos q, tN, e1, Option.bind_some, CP_dg hN (CPw_ag hc.2.2.2.1 (ag_fr e2 (by decide))) (by omega) hCP, Option.bind_some]
      · obtain ⟨s', f1, f2, f3, f4⟩ := X12_few26_eq (N := N) (p := p) (i := i) (σ := σ1) hN (by omega) (by omega)
        have hF1 := h1.2.2.2.2.2.1
        have hRP : RP s' (pst (sP S) p (meanM (sE S) (sn S) ((sF S).getD i (0, 0)).2)) := fun p' hp' x hx => by
          unfold pst
          by_cases ep : p' = p
          · subst ep; rw [if_pos rfl, f3 x hx, hF1.2 i (by omega) x hx]; rfl
          · rw [if_neg ep, f4 _ (by omega)]; exact h1.2.2.2.2.1 p' hp' x hx
        refine ⟨s', ?_, fq_of f2 (by decide), hRP⟩
        unfold f_X12_few
        rw [X12_isP_eq, if_pos q, Option.bind_some]
        try dsimp only
        rw [if_neg (by decide), hF1.1.1, mw_id (z := ((sF S).length : Int) - 1) (by omega) (by omega), X12_in_eq, if_pos (by omega), Option.bind_some]
        try dsimp only
        rw [if_neg (by decide), f1, Option.bind_some, RP_dg hN (by omega) hRP, Option.bind_some]
    · refine SIM_n (A := fewT N a b) (B := f_X12_few N a b) (v := -2) hc hP ?_ (fun σ1 h1 => ?_)
      · unfold fewT
        rw [X6_has_eq, if_pos q, Option.bind_some]
        try dsimp only
        rw [if_neg (by decide), X0_has_eq e42, if_neg q2, Option.bind_some]
        try dsimp only
        rw [if_pos rfl]
      · unfold f_X12_few
        rw [X12_isP_eq, if_pos q, Option.bind_some]
        try dsimp only
        rw [if_neg (by decide), h1.2.2.2.2.2.1.1.1, mw_id (z := ((sF S).length : Int) - 1) (by omega) (by omega), X12_in_eq, if_neg (by omega), Option.bind_some]
        try dsimp only
        rw [if_pos rfl]
  · refine SIM_n (A := fewT N a b) (B := f_X12_few N a b) (v := -2) hc hP ?_ (fun σ1 h1 => ?_)
    · unfold fewT
      rw [X6_has_eq, if_neg q, Option.bind_some]
      try dsimp only
      rw [if_pos rfl]
    · unfold f_X12_few
      rw [X12_isP_eq, if_neg q, Option.bind_some]
      try dsimp only
      rw [if_pos rfl])
theorem SIM_laws {N : Nat} (hN : 1000 ≤ N) (a b : Int) : SIM (f_X11_laws N a b) (f_X12_laws N a b) := SIM_i (fun σ S hC hP => by
  by_cases q : 0 ≤ a ∧ a ≤ 6
  · by_cases q2 : 0 ≤ b ∧ b ≤ 1
    · obtain ⟨d, rfl⟩ : ∃ g : Nat, a = (g : Int) := ⟨a.toNat, by omega⟩
      refine SIM_f (A' := fun s => if b = 0 then some ((s 47 d 3), s) else Option.bind (f_X11_count N (d : Int) 0 s) fun ⟨v818, s817⟩ => some ((mw ((s 47 d 3) - v818)), s817)) hN hC (fun s hs => by
        unfold f_X11_laws
        rw [if_neg (by omega), if_neg (by omega), if_neg (by omega), if_pos (by omega), hs, Option.bind_some, if_pos (by omega), tN]) (fun s hc hF => ?_)
      obtain ⟨hB, hL⟩ := sF_ok hc
      have e47 : s 47 d 3 = ((prL (sF S) d).length : Int) := (hF.2 d (by omega)).1
      have hls : ∀ σ1, RI σ1 S → ∃ s', f_X12_list N (d : Int) σ1 = some s' ∧ fq [85, 88] [26] σ1 s' ∧ s' 71 0 26 = ((prL (sF S) d).length : Int) := fun σ1 h1 => by
        obtain ⟨s', f1, f2, f3⟩ := X12_list_eq (N := N) (d := d) hN hL.1 hB (by omega) h1.2.2.2.2.2.1.1
        exact ⟨s', f1, f2, f3.1⟩
      by_cases q3 : b = 0
      · refine ⟨((prL (sF S) d).length : Int), s, S, ?_, okC_rfl, hc, hP, fun σ1 h1 => ?_⟩
        · rw [if_pos q3, e47]
        · obtain ⟨s', f1, f2, f3⟩ := hls σ1 h1
          refine ⟨s', ?_, okR_fq f2 (by decide), RI_k h1 f2 (by decide) (by decide) (fun c _ => f2.1 81 _ _ (by decide) (by decide))⟩
          unfold f_X12_laws
          rw [X12_in_eq, if_pos q, Option.bind_some]
          try dsimp only
          rw [if_neg (by decide), X12_in_eq, if_pos q2, Option.bind_some]
          try dsimp only
          rw [if_neg (by decide), f1, Option.bind_some, if_pos q3, f3]
      · obtain ⟨s1, e1, e2⟩ := CI_ct (N := N) (d := d) (c := 0) hN hc (by omega) (sc_0 S).1
        refine ⟨mw (((prL (sF S) d).length : Int) - (cnt (sE S) (sn S) (sg S 0) d : Int)), s1, S, ?_, okC_fr e2 (by decide), CI_ag hc (ag_fr e2 (by decide)), hP, fun σ1 h1 => ?_⟩
        · rw [if_neg q3, show (0 : Int) = ((0 : Nat) : Int) from rfl, e1, Option.bind_some, e47]
        · obtain ⟨s', f1, f2, f3⟩ := hls σ1 h1
          have h2 : RI s' S := RI_k h1 f2 (by decide) (by decide) (fun c _ => f2.1 81 _ _ (by decide) (by decide))
          obtain ⟨s3, g1, g2⟩ := X12_count0_eq (N := N) (d := d) (c := 0) hN (RI_G h2) (by omega) (by omega) (RI_sg hc h2 (sc_0 S).1) (sg_mul hc (sc_0 S).1)
          refine ⟨s3, ?_, okR_t (okR_fq f2 (by decide)) (okR_fq g2 (by decide)), RI_k h2 g2 (by decide) (by decide) (fun c _ => g2.1 81 _ _ (by simp) (by decide))⟩
          unfold f_X12_laws
          rw [X12_in_eq, if_pos q, Option.bind_some]
          try dsimp only
          rw [if_neg (by decide), X12_in_eq, if_pos q2, Option.bind_some]
          try dsimp only
          rw [if_neg (by decide), f1, Option.bind_some, if_neg q3, show (0 : Int) = ((0 : Nat) : Int) from rfl, g1, Option.bind_some, f3]
    · refine SIM_n (v := -1) hC hP ?_ (fun σ1 h1 => ?_)
      · unfold f_X11_laws
        rw [if_neg (by omega), if_neg (by omega)]
        by_cases q3 : b < 0
        · rw [if_pos q3]
        · rw [if_neg q3, if_neg (by omega)]
      · unfold f_X12_laws
        rw [X12_in_eq, if_pos q, Option.bind_some]
        try dsimp only
        rw [if_neg (by decide), X12_in_eq, if_neg q2, Option.bind_some]
        try dsimp only
        rw [if_pos rfl]
  · refine SIM_n (v := -1) hC hP ?_ (fun σ1 h1 => ?_)
    · unfold f_X11_laws
      by_cases q3 : a < 0
      · rw [if_pos q3]
      · rw [if_neg q3, if_pos (by omega)]
    · unfold f_X12_laws
      rw [X12_in_eq, if_neg q, Option.bind_some]
      try dsimp only
      rw [if_pos rfl])
theorem SIM_made {N : Nat} (hN : 1000 ≤ N) (a : Int) : SIM (f_X11_made N a) (f_X12_made N a) := SIM_i (fun σ S hC hP => by
  obtain ⟨hs, h16⟩ := CI_s hC
  obtain ⟨z0, z1⟩ := sc_0 S
  by_cases q : 0 ≤ a ∧ a < 8
  · obtain ⟨p, rfl⟩ : ∃ g : Nat, a = (g : Int) := ⟨a.toNat, by omega⟩
    have hp : p < 8 := by omega
    obtain ⟨s0, e1, e2⟩ := CI_st (N := N) (p := p) (c := 0) hN hC hP hp z0
    have hC0 : CI s0 S := CI_ag hC (ag_fr e2 (by decide))
    have hk0 : okC σ s0 := okC_fr e2 (by decide)
    have hst : ∀ σ1, RI σ1 S → ∃ s', f_X12_stays0 N (p : Int) 0 σ1 = some (bi (stb (sE S) (sn S) (sg S 0) (sP S p)), s') ∧ okR σ1 s' ∧ RI s' S := fun σ1 h1 => by
      obtain ⟨s', f1, f2, f3⟩ := X12_stays0_eq (N := N) (c := 0) hN (RI_G h1) hp (by omega) h1.2.2.2.2.1 (hP p hp) (RI_sg hC h1 z0)
      exact ⟨s', f1, okR_fq f2 (by decide), RI_P h1 f2 (by decide) (by decide) f3⟩
    rw [show ((0 : Nat) : Int) = 0 from rfl] at e1
    by_cases qs : stb (sE S) (sn S) (sg S 0) (sP S p) = true
    · rw [qs] at e1
      have d0 := X6_degreeOf_eq (N := N) hN hC0.2.2.2.1 hp (hC0.2.2.2.2.2.2.1 p hp)
      by_cases qd : pdg (sP S p) ≤ 6
      · obtain ⟨s1, t1, t2, t3, t4⟩ := CI_find (N := N) hN hC0
        obtain ⟨hB, hL⟩ := sF_ok t3
        have hG := CI_G t3
        have hin := stay_in hG (fun g _ => z1 g) qs
        have e33 : ∀ x, x < 165 → s1 33 p x = sP S p x := t3.2.2.2.2.2.2.1 p hp
        have hin1 : ∀ d, d ≤ 6 → inS (FV (sE S) (sn S) (sF S) d) (frl (sE S) (sn S) (sF S) d).length (wd d) (fun k => s1 33 p (fst9 d + k)) := fun d hd => inS_cg (fun f _ k _ => em_r _) (fun k hk => by rw [e33 _ (fst_pD (by omega) hk).1]; exact em_r _) (hin d hd)
        obtain ⟨s2, u1, u2, u3⟩ := X0_split_eq (N := N) (q1 := p) hN t3.2.2.2.2.1 hB t4.1 t4.2 (fun x hx => by rw [e33 x hx]; exact hP p hp x hx) hin1
        have hpt : ∀ d, d ≤ 7 → ptA7 (sE S) (sn S) (sF S) (s1 33 p) d = ptA7 (sE S) (sn S) (sF S) (sP S p) d := by
          intro d
          induction d with
          | zero => intro _; rfl
          | succ d ih =>
            intro hd
            show ptA7 _ _ _ _ d ++ ptdF _ _ _ _ d = ptA7 _ _ _ _ d ++ ptdF _ _ _ _ d
            rw [ih (by omega)]
            refine congrArg _ ?_
            unfold ptdF
            have a5 := (t4.2 d (by omega)).2.2.2.2
            exact ptd_cg _ (fun f hf => cof_w a5.2.2.2.2.2.2 (fun k hk => e33 _ (fst_pD (by omega) hk).1) (hin1 d (by omega)) f hf)
        rw [hpt 7 (Nat.le_refl _)] at u3
        refine ⟨((ptA7 (sE S) (sn S) (sF S) (sP S p) 7).length : Int), s2, (sT S, sM S, sk S, sP S, ptA7 (sE S) (sn S) (sF S) (sP S p) 7, (sF S).length, sAc S, sp S, sL S), ?_, okC_t hk0 (okC_t (okC_fr t2 (by decide)) (okC_fr u2 (by decide))), ?_, hP, fun σ1 h1 => ?_⟩
        · unfold f_X11_made
          rw [e1, Option.bind_some]
          try dsimp only
          rw [if_pos bi_t, d0, Option.bind_some]
          try dsimp only
          rw [if_pos qd, t1, Option.bind_some, if_pos q, tN, u1, Option.bind_some, u3.1]
        · have hG := CI_G t3
          obtain ⟨a, b, c, d, e, f, g, i, j⟩ := t3
          exact ⟨TC_ag a (ag_fr u2 (by decide)), CGr_ag b (ag_fr u2 (by decide)), CS_ag c (ag_fr u2 (by decide)), CPw_ag d (ag_fr u2 (by decide)), CLy_ag e (ag_fr u2 (by decide)), CFl_ag hG f (ag_fr u2 (by decide)), CP_ag g (ag_fr u2 (by decide)), u3, IMC_ag j (ag_fr u2 (by decide))⟩
        · obtain ⟨s', f1, f2, f3⟩ := hst σ1 h1
          rw [qs] at f1
          obtain ⟨s3, g1, g2, g3⟩ := X12_mall_eq (N := N) hN hG hL.1 hB f3.2.2.2.2.2.1 hp f3.2.2.2.2.1 (hP p hp) hin
          refine ⟨s3, ?_, okR_t f2 (okR_fq g2.1 (by decide)), ?_⟩
          · unfold f_X12_made
            rw [X12_isP_eq, if_pos q, Option.bind_some]
            try dsimp only
            rw [if_neg (by decide), f1, Option.bind_some]
            try dsimp only
            rw [if_neg (by decide), X12_degree0_eq hN hp f3.2.2.2.2.1, Option.bind_some]
            try dsimp only
            rw [if_pos qd, g1, Option.bind_some, g3.1]
          · obtain ⟨a, b, c, d, e, f, g, i⟩ := f3
            exact ⟨TR_fq a g2.1 (by decide) (by decide), RGr_fq b g2.1 (by decide) (by decide), RS_fq c g2.1 (by decide) (by decide), RCl_fq d g2.1 (by decide) (by decide), RP_fD e g2.2, RFw_fq f g2.1 (by decide) (by decide) (by decide), g3, IMR_fq i g2.1 (by decide) (by decide) (by decide) (by decide)⟩
      · refine ⟨-1, s0, S, ?_, hk0, hC0, hP, fun σ1 h1 => ?_⟩
        · unfold f_X11_made
          rw [e1, Option.bind_some]
          try dsimp only
          rw [if_pos bi_t, d0, Option.bind_some]
          try dsimp only
          rw [if_neg qd]
        · obtain ⟨s', f1, f2, f3⟩ := hst σ1 h1
          rw [qs] at f1
          refine ⟨s', ?_, f2, f3⟩
          unfold f_X12_made
          rw [X12_isP_eq, if_pos q, Option.bind_some]
          try dsimp only
          rw [if_neg (by decide), f1, Option.bind_some]
          try dsimp only
          rw [if_neg (by decide), X12_degree0_eq hN hp f3.2.2.2.2.1, Option.bind_some]
          try dsimp only
          rw [if_neg qd]
    · have qs' : stb (sE S) (sn S) (sg S 0) (sP S p) = false := by
        cases h : stb (sE S) (sn S) (sg S 0) (sP S p) with
        | false => rfl
        | true => exact absurd h qs
      rw [qs'] at e1
      refine ⟨-1, s0, S, ?_, hk0, hC0, hP, fun σ1 h1 => ?_⟩
      · unfold f_X11_made
        rw [e1, Option.bind_some]
        try dsimp only
        rw [if_neg (by decide)]
      · obtain ⟨s', f1, f2, f3⟩ := hst σ1 h1
        rw [qs'] at f1
        refine ⟨s', ?_, f2, f3⟩
        unfold f_X12_made
        rw [X12_isP_eq, if_pos q, Option.bind_some]
        try dsimp only
        rw [if_neg (by decide), f1, Option.bind_some]
        try dsimp only
        rw [if_pos bi_f]
  · refine SIM_n (v := -1) hC hP ?_ (fun σ1 h1 => ?_)
    · unfold f_X11_made f_X11_stays
      rw [X6_has_eq, if_neg q, Option.bind_some]
      try dsimp only
      rw [if_pos rfl, Option.bind_some]
      try dsimp only
      rw [if_neg (by decide)]
    · unfold f_X12_made
      rw [X12_isP_eq, if_neg q, Option.bind_some]
      try dsimp only
      rw [if_pos rfl])
