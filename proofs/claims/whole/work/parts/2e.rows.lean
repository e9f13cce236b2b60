set_option maxRecDepth 100000 in
set_option maxHeartbeats 4000000 in
theorem p_X3_keepIfFree_r46_73 {e : mEv} (hG : mGeo (mw0 e) lw_kept) (N : Nat) {f : mFx} (C0 : mCx f (mw0 e) sc0 cX3_keepIfFree 6 RX3 lw_kept) (hFr : mFr f 3) : ∀ (n : Nat) (y0 : Nat) (x2 : Int) (x3 : Int) (x4 : Int) (x5 : Int) (σ : mS) (σ' : mS), L_X3_keepIfFree_r46_73 N n y0 x2 x3 x4 x5 σ = some σ' → mWW f (mw0 e) sc0 6 (140, [some (.inr (.inr (47, y0))), none, some (.inl x2), some (.inl x3), none, none], [], σ') → mWW f (mw0 e) sc0 6 (73, [some (.inr (.inr (47, y0))), none, some (.inl x2), some (.inl x3), some (.inl x4), some (.inl x5)], [], σ) := by
  intro n
  induction n with
  | zero =>
    intro y0 x2 x3 x4 x5 σ σ' h hK
    cases h
  | succ n IH =>
    intro y0 x2 x3 x4 x5 σ σ' h hK
    rw [L_X3_keepIfFree_r46_73_s] at h
    refine m_blk C0 (pX3_ok rfl) kX3_keepIfFree_ok 41 3 (79, [some (.inr (.inr (47, y0))), none, some (.inl x2), some (.inl x3), some (.inl x4), some (.inl x5)], [.inl (σ 47 y0 1), .inl x5], σ) (Ps := []) rfl trivial ?_
    refine b_ige C0 kX3_keepIfFree_ok 44 (off := 61) (tgt := 140) rfl (by decide) (fun hb415 => ?_) (fun hb415 => ?_)
    · replace h := g_pos hb415 h
      cases h
      refine m_mask [true, false, true, true, false, false] (ls' := [some (.inr (.inr (47, y0))), none, some (.inl x2), some (.inl x3), none, none]) rfl ?_
      exact hK
    · replace h := g_neg hb415 h
      obtain ⟨hc, h⟩ := g_if h
      refine m_blk C0 (pX3_ok rfl) kX3_keepIfFree_ok 45 15 (108, [some (.inr (.inr (47, y0))), none, some (.inl x2), some (.inl x3), some (.inl x4), some (.inl x5)], [], (mup σ 55 (64 * y0 + (σ 47 y0 7).toNat) x5.toNat (o_rem (mw ((σ 59 y0 x5.toNat) * x4)) 32003))) (Ps := [0 ≤ (σ 47 y0 7) ∧ (σ 47 y0 7) < ((gwd y0 : Nat) : Int), 0 ≤ x5 ∧ x5 < ((gwd y0 : Nat) : Int), ¬ (32003 : Int) = 0, 0 ≤ x5 ∧ x5 < ((gwd ((64 * y0 + (σ 47 y0 7).toNat) / 64) : Nat) : Int)]) rfl (And.intro hc.1 (And.intro hc.2.1 (And.intro (by decide) (And.intro hc.2.2 trivial)))) ?_
      refine m_blk C0 (pX3_ok rfl) kX3_keepIfFree_ok 60 15 (134, [some (.inr (.inr (47, y0))), none, some (.inl x2), some (.inl x3), some (.inl x4), some (.inl x5)], [], (mup (mup σ 55 (64 * y0 + (σ 47 y0 7).toNat) x5.toNat (o_rem (mw ((σ 59 y0 x5.toNat) * x4)) 32003)) 57 (64 * y0 + (σ 47 y0 7).toNat) x5.toNat (o_rem (mw ((σ 60 y0 x5.toNat) * x4)) 32003))) (Ps := [0 ≤ (σ 47 y0 7) ∧ (σ 47 y0 7) < ((gwd y0 : Nat) : Int), 0 ≤ x5 ∧ x5 < ((gwd y0 : Nat) : Int), ¬ (32003 : Int) = 0, 0 ≤ x5 ∧ x5 < ((gwd ((64 * y0 + (σ 47 y0 7).toNat) / 64) : Nat) : Int)]) rfl (And.intro hc.1 (And.intro hc.2.1 (And.intro (by decide) (And.intro hc.2.2 trivial)))) ?_
      refine m_blk C0 (pX3_ok rfl) kX3_keepIfFree_ok 75 2 (73, [some (.inr (.inr (47, y0))), none, some (.inl x2), some (.inl x3), some (.inl x4), some (.inl (mw (x5 + 1)))], [], (mup (mup σ 55 (64 * y0 + (σ 47 y0 7).toNat) x5.toNat (o_rem (mw ((σ 59 y0 x5.toNat) * x4)) 32003)) 57 (64 * y0 + (σ 47 y0 7).toNat) x5.toNat (o_rem (mw ((σ 60 y0 x5.toNat) * x4)) 32003))) (Ps := []) rfl trivial ?_
      refine m_mask [true, false, true, true, true, true] (ls' := [some (.inr (.inr (47, y0))), none, some (.inl x2), some (.inl x3), some (.inl x4), some (.inl (mw (x5 + 1)))]) rfl ?_
      exact IH _ _ _ _ _ _ _ h hK
set_option maxRecDepth 100000 in
set_option maxHeartbeats 4000000 in
theorem t_X3_keepIfFree_r46 {e : mEv} (hG : mGeo (mw0 e) lw_kept) (l : Launch) (N : Nat) {q0 : Nat} {a2 : Int} {σ σ' : mS} {v : Int} (h : f_X3_keepIfFree_r46 N q0 a2 σ = some (v, σ')) : mMet l (mw0 e) lw_kept 3 yX3_keepIfFree cX3_keepIfFree 6 (some .boolean) [.inr (.inr (47, q0)), .inr (.inr (46, 0)), .inl a2] σ (some (.inl v)) σ' := by
  refine mMet_intro (plainFor_of_name (by decide)) hG (Nat.le_of_ble_eq_true rfl) (fun f hl hR C0 hFin => ?_)
  subst hl
  have hFr := mFr_of hR hFin
  unfold f_X3_keepIfFree_r46 at h
  show mWW f (mw0 e) sc0 6 (0, [some (.inr (.inr (47, q0))), some (.inr (.inr (46, 0))), some (.inl a2), none, none, none], [], σ)
  refine m_blk C0 (pX3_ok rfl) kX3_keepIfFree_ok 0 7 (11, [some (.inr (.inr (47, q0))), some (.inr (.inr (46, 0))), some (.inl a2), none, none, none], [.inl (σ 47 q0 1), .inl 0, .inr (.inr (59, q0)), .inl 0, .inr (.inr (46, 0))], σ) (Ps := []) rfl trivial ?_
  obtain ⟨hc, h⟩ := g_if h
  refine c_copy (rest := []) C0 hFr lkc_1 (k_at kX3_keepIfFree_ok 7 rfl) rfl rfl rfl (by decide) (Nat.le_of_ble_eq_true rfl) hc ?_
  refine m_blk C0 (pX3_ok rfl) kX3_keepIfFree_ok 8 3 (19, [some (.inr (.inr (47, q0))), some (.inr (.inr (46, 0))), some (.inl a2), none, none, none], [.inl 0, .inr (.inr (60, q0))], (mcp σ 46 0 0 59 q0 0 (σ 47 q0 1))) (Ps := []) rfl trivial ?_
  obtain ⟨s409, hq423, h⟩ := g_bind h
  refine c_S (rest := []) C0 hFr (t_J7_fill_53178_r60 hG f.2.1 N hq423) lk_X3_76 (k_at kX3_keepIfFree_ok 11 rfl) rfl rfl rfl (by decide) (by decide) (Nat.le_of_ble_eq_true rfl) ?_
  refine m_blk C0 (pX3_ok rfl) kX3_keepIfFree_ok 12 1 (23, [some (.inr (.inr (47, q0))), some (.inr (.inr (46, 0))), some (.inl a2), none, none, none], [.inr (.inr (47, q0))], s409) (Ps := []) rfl trivial ?_
  obtain ⟨s410, hq422, h⟩ := g_bind h
  refine c_V (rest := []) C0 hFr (t_X3_reduceWork hG f.2.1 N hq422) lk_X3_82 (k_at kX3_keepIfFree_ok 13 rfl) rfl rfl rfl rfl ⟨_, _, rfl⟩ (by decide) (by decide) (Nat.le_of_ble_eq_true rfl) ?_
  refine m_blk C0 (pX3_ok rfl) kX3_keepIfFree_ok 14 1 (27, [some (.inr (.inr (47, q0))), some (.inr (.inr (46, 0))), some (.inl a2), none, none, none], [.inr (.inr (47, q0))], s410) (Ps := []) rfl trivial ?_
  obtain ⟨⟨v412, s411⟩, hq421, h⟩ := g_bind h
  refine c_V (rest := []) C0 hFr (t_X3_firstOfWork hG f.2.1 N hq421) lk_X3_85 (k_at kX3_keepIfFree_ok 15 rfl) rfl rfl rfl rfl ⟨_, _, rfl⟩ (by decide) (by decide) (Nat.le_of_ble_eq_true rfl) ?_
  refine m_blk C0 (pX3_ok rfl) kX3_keepIfFree_ok 16 3 (33, [some (.inr (.inr (47, q0))), some (.inr (.inr (46, 0))), some (.inl a2), some (.inl v412), none, none], [.inl (-1), .inl v412], s411) (Ps := []) rfl trivial ?_
  refine b_ieq C0 kX3_keepIfFree_ok 19 (off := 14) (tgt := 47) rfl (by decide) (fun hb420 => ?_) (fun hb420 => ?_)
  · replace h := g_pos hb420 h
    refine m_blk C0 (pX3_ok rfl) kX3_keepIfFree_ok 25 1 (48, [some (.inr (.inr (47, q0))), some (.inr (.inr (46, 0))), some (.inl a2), some (.inl v412), none, none], [.inl 0], s411) (Ps := []) rfl trivial ?_
    cases h
    exact m_iret C0 hFin (k_at kX3_keepIfFree_ok 26 rfl) (Or.inr ⟨rfl, by decide⟩)
  · replace h := g_neg hb420 h
    refine m_blk C0 (pX3_ok rfl) kX3_keepIfFree_ok 20 4 (44, [some (.inr (.inr (47, q0))), some (.inr (.inr (46, 0))), some (.inl a2), some (.inl v412), none, none], [.inl (s411 47 q0 1), .inl (s411 47 q0 7)], s411) (Ps := []) rfl trivial ?_
    refine b_ilt C0 kX3_keepIfFree_ok 24 (off := 5) (tgt := 49) rfl (by decide) (fun hb419 => ?_) (fun hb419 => ?_)
    · replace h := g_pos hb419 h
      obtain ⟨hc, h⟩ := g_if h
      refine m_blk C0 (pX3_ok rfl) kX3_keepIfFree_ok 27 6 (59, [some (.inr (.inr (47, q0))), some (.inr (.inr (46, 0))), some (.inl a2), some (.inl v412), none, none], [], (mup s411 60 q0 ((s411 47 q0 7).toNat) 1)) (Ps := [0 ≤ (s411 47 q0 7) ∧ (s411 47 q0 7) < ((gwd q0 : Nat) : Int)]) rfl (And.intro hc.1 trivial) ?_
      refine m_blk C0 (pX3_ok rfl) kX3_keepIfFree_ok 33 4 (65, [some (.inr (.inr (47, q0))), some (.inr (.inr (46, 0))), some (.inl a2), some (.inl v412), none, none], [.inl (s411 59 q0 v412.toNat)], (mup s411 60 q0 ((s411 47 q0 7).toNat) 1)) (Ps := [0 ≤ v412 ∧ v412 < ((gwd q0 : Nat) : Int)]) rfl (And.intro hc.2 trivial) ?_
      obtain ⟨⟨v414, s413⟩, hq418, h⟩ := g_bind h
      refine c_SN (rest := []) C0 hFr (t_X11_inverse hG f.2.1 N hq418) lk_X3_89 (k_at kX3_keepIfFree_ok 37 rfl) rfl rfl rfl (by decide) (by decide) (Nat.le_of_ble_eq_true rfl) ?_
      refine m_blk C0 (pX3_ok rfl) kX3_keepIfFree_ok 38 3 (73, [some (.inr (.inr (47, q0))), some (.inr (.inr (46, 0))), some (.inl a2), some (.inl v412), some (.inl v414), some (.inl 0)], [], s413) (Ps := []) rfl trivial ?_
      obtain ⟨s416, hq417, h⟩ := g_bind h
      refine m_mask [true, false, true, true, true, true] (ls' := [some (.inr (.inr (47, q0))), none, some (.inl a2), some (.inl v412), some (.inl v414), some (.inl 0)]) rfl ?_
      refine p_X3_keepIfFree_r46_73 hG N C0 hFr N _ _ _ _ _ _ _ hq417 ?_
      obtain ⟨hc, h⟩ := g_if h
      refine m_blk C0 (pX3_ok rfl) kX3_keepIfFree_ok 77 6 (150, [some (.inr (.inr (47, q0))), none, some (.inl a2), some (.inl v412), none, none], [], (mup s416 58 q0 ((s416 47 q0 7).toNat) v412)) (Ps := [0 ≤ (s416 47 q0 7) ∧ (s416 47 q0 7) < ((gwd q0 : Nat) : Int)]) rfl (And.intro hc trivial) ?_
      refine m_blk C0 (pX3_ok rfl) kX3_keepIfFree_ok 83 6 (160, [some (.inr (.inr (47, q0))), none, some (.inl a2), some (.inl v412), none, none], [], (mup (mup s416 58 q0 ((s416 47 q0 7).toNat) v412) 53 q0 ((s416 47 q0 7).toNat) a2)) (Ps := [0 ≤ (s416 47 q0 7) ∧ (s416 47 q0 7) < ((gwd q0 : Nat) : Int)]) rfl (And.intro hc trivial) ?_
      refine m_blk C0 (pX3_ok rfl) kX3_keepIfFree_ok 89 6 (170, [some (.inr (.inr (47, q0))), none, some (.inl a2), some (.inl v412), none, none], [], (mup (mup (mup s416 58 q0 ((s416 47 q0 7).toNat) v412) 53 q0 ((s416 47 q0 7).toNat) a2) 47 q0 7 (mw ((s416 47 q0 7) + 1)))) (Ps := []) rfl trivial ?_
      refine m_blk C0 (pX3_ok rfl) kX3_keepIfFree_ok 95 1 (171, [some (.inr (.inr (47, q0))), none, some (.inl a2), some (.inl v412), none, none], [.inl 1], (mup (mup (mup s416 58 q0 ((s416 47 q0 7).toNat) v412) 53 q0 ((s416 47 q0 7).toNat) a2) 47 q0 7 (mw ((s416 47 q0 7) + 1)))) (Ps := []) rfl trivial ?_
      cases h
      exact m_iret C0 hFin (k_at kX3_keepIfFree_ok 96 rfl) (Or.inr ⟨rfl, by decide⟩)
    · replace h := g_neg hb419 h
      refine m_blk C0 (pX3_ok rfl) kX3_keepIfFree_ok 25 1 (48, [some (.inr (.inr (47, q0))), some (.inr (.inr (46, 0))), some (.inl a2), some (.inl v412), none, none], [.inl 0], s411) (Ps := []) rfl trivial ?_
      cases h
      exact m_iret C0 hFin (k_at kX3_keepIfFree_ok 26 rfl) (Or.inr ⟨rfl, by decide⟩)
set_option maxRecDepth 100000 in
set_option maxHeartbeats 4000000 in
theorem p_J7_fill_53178_r49_5 {e : mEv} (hG : mGeo (mw0 e) lw_kept) (N : Nat) {f : mFx} (C0 : mCx f (mw0 e) sc0 cJ7_fill_53178 4 RJ7 lw_kept) (hFr : mFr f 0) : ∀ (n : Nat) (y0 : Nat) (x1 : Int) (x2 : Int) (x3 : Int) (σ : mS) (σ' : mS), L_J7_fill_53178_r49_5 N n y0 x1 x2 x3 σ = some σ' → mWW f (mw0 e) sc0 4 (20, [none, none, none, none], [], σ') → mWW f (mw0 e) sc0 4 (5, [some (.inr (.inr (49, y0))), some (.inl x1), some (.inl x2), some (.inl x3)], [], σ) := by
  intro n
  induction n with
  | zero =>
    intro y0 x1 x2 x3 σ σ' h hK
    cases h
  | succ n IH =>
    intro y0 x1 x2 x3 σ σ' h hK
    rw [L_J7_fill_53178_r49_5_s] at h
    refine m_blk C0 (pJ7_ok rfl) kJ7_fill_53178_ok 5 2 (7, [some (.inr (.inr (49, y0))), some (.inl x1), some (.inl x2), some (.inl x3)], [.inl x3, .inl x2], σ) (Ps := []) rfl trivial ?_
    refine b_ige C0 kJ7_fill_53178_ok 7 (off := 13) (tgt := 20) rfl (by decide) (fun hb426 => ?_) (fun hb426 => ?_)
    · replace h := g_pos hb426 h
      cases h
      refine m_mask [false, false, false, false] (ls' := [none, none, none, none]) rfl ?_
      exact hK
    · replace h := g_neg hb426 h
      obtain ⟨hc, h⟩ := g_if h
      refine m_blk C0 (pJ7_ok rfl) kJ7_fill_53178_ok 8 4 (14, [some (.inr (.inr (49, y0))), some (.inl x1), some (.inl x2), some (.inl x3)], [], (mup σ 49 y0 x2.toNat x1)) (Ps := [0 ≤ x2 ∧ x2 < 6]) rfl (And.intro hc trivial) ?_
      refine m_blk C0 (pJ7_ok rfl) kJ7_fill_53178_ok 12 2 (5, [some (.inr (.inr (49, y0))), some (.inl x1), some (.inl (mw (x2 + 1))), some (.inl x3)], [], (mup σ 49 y0 x2.toNat x1)) (Ps := []) rfl trivial ?_
      refine m_mask [true, true, true, true] (ls' := [some (.inr (.inr (49, y0))), some (.inl x1), some (.inl (mw (x2 + 1))), some (.inl x3)]) rfl ?_
      exact IH _ _ _ _ _ _ h hK
set_option maxRecDepth 100000 in
set_option maxHeartbeats 4000000 in
theorem t_J7_fill_53178_r49 {e : mEv} (hG : mGeo (mw0 e) lw_kept) (l : Launch) (N : Nat) {q0 : Nat} {a1 : Int} {σ σ' : mS} (h : f_J7_fill_53178_r49 N q0 a1 σ = some σ') : mMet l (mw0 e) lw_kept 0 yJ7_fill_53178 cJ7_fill_53178 4 none [.inr (.inr (49, q0)), .inl a1] σ none σ' := by
  refine mMet_intro (by decide +kernel) hG (Nat.le_of_ble_eq_true rfl) (fun f hl hR C0 hFin => ?_)
  subst hl
  have hFr := mFr_of hR hFin
  unfold f_J7_fill_53178_r49 at h
  show mWW f (mw0 e) sc0 4 (0, [some (.inr (.inr (49, q0))), some (.inl a1), none, none], [], σ)
  refine m_blk C0 (pJ7_ok rfl) kJ7_fill_53178_ok 0 5 (5, [some (.inr (.inr (49, q0))), some (.inl a1), some (.inl 0), some (.inl 6)], [], σ) (Ps := []) rfl trivial ?_
  obtain ⟨s427, hq428, h⟩ := g_bind h
  refine m_mask [true, true, true, true] (ls' := [some (.inr (.inr (49, q0))), some (.inl a1), some (.inl 0), some (.inl 6)]) rfl ?_
  refine p_J7_fill_53178_r49_5 hG N C0 hFr N _ _ _ _ _ _ hq428 ?_
  cases h
  exact m_vret C0 hFin (k_at kJ7_fill_53178_ok 14 rfl)
set_option maxRecDepth 100000 in
set_option maxHeartbeats 4000000 in
theorem t_X0_addOne {e : mEv} (hG : mGeo (mw0 e) lw_kept) (l : Launch) (N : Nat) {q1 : Nat} {σ σ' : mS} (h : f_X0_addOne N q1 σ = some σ') : mMet l (mw0 e) lw_kept 1 yX0_addOne cX0_addOne 3 none [.inr (.inr (42, 0)), .inr (.inr (47, q1))] σ none σ' := by
  refine mMet_intro (plainFor_of_name (by decide)) hG (Nat.le_of_ble_eq_true rfl) (fun f hl hR C0 hFin => ?_)
  subst hl
  have hFr := mFr_of hR hFin
  unfold f_X0_addOne at h
  show mWW f (mw0 e) sc0 3 (0, [some (.inr (.inr (42, 0))), some (.inr (.inr (47, q1))), none], [], σ)
  obtain ⟨hc, h⟩ := g_if h
  refine m_blk C0 (pX0_ok rfl) kX0_addOne_ok 0 13 (21, [some (.inr (.inr (42, 0))), some (.inr (.inr (47, q1))), some (.inl (σ 47 q1 3))], [.inl (σ 47 q1 1), .inl 0, .inr (.inr (51, 64 * q1 + (σ 47 q1 3).toNat)), .inl 0, .inr (.inr (46, 0))], σ) (Ps := [0 ≤ (σ 47 q1 3) ∧ (σ 47 q1 3) < ((gmo q1 : Nat) : Int)]) rfl (And.intro hc trivial) ?_
  obtain ⟨hc, h⟩ := g_if h
  refine c_copy (rest := []) C0 hFr lkc_2 (k_at kX0_addOne_ok 13 rfl) rfl rfl rfl (by decide) (Nat.le_of_ble_eq_true rfl) hc ?_
  obtain ⟨hc, h⟩ := g_if h
  refine m_blk C0 (pX0_ok rfl) kX0_addOne_ok 14 5 (31, [some (.inr (.inr (42, 0))), some (.inr (.inr (47, q1))), some (.inl (σ 47 q1 3))], [.inl 0, .inr (.inr (49, 64 * q1 + (σ 47 q1 3).toNat))], (mcp σ 46 0 0 51 (64 * q1 + (σ 47 q1 3).toNat) 0 (σ 47 q1 1))) (Ps := [0 ≤ (σ 47 q1 3) ∧ (σ 47 q1 3) < ((gmo q1 : Nat) : Int)]) rfl (And.intro hc trivial) ?_
  obtain ⟨s429, hq430, h⟩ := g_bind h
  refine c_S (rest := []) C0 hFr (t_J7_fill_53178_r49 hG f.2.1 N hq430) lk_X0_93 (k_at kX0_addOne_ok 19 rfl) rfl rfl rfl (by decide) (by decide) (Nat.le_of_ble_eq_true rfl) ?_
  obtain ⟨hc, h⟩ := g_if h
  refine m_blk C0 (pX0_ok rfl) kX0_addOne_ok 20 8 (46, [some (.inr (.inr (42, 0))), some (.inr (.inr (47, q1))), some (.inl (σ 47 q1 3))], [], (mup s429 49 (64 * q1 + (σ 47 q1 3).toNat) ((s429 42 0 0).toNat) 1)) (Ps := [0 ≤ (σ 47 q1 3) ∧ (σ 47 q1 3) < ((gmo q1 : Nat) : Int), 0 ≤ (s429 42 0 0) ∧ (s429 42 0 0) < 6]) rfl (And.intro hc.1 (And.intro hc.2 trivial)) ?_
  refine m_blk C0 (pX0_ok rfl) kX0_addOne_ok 28 6 (56, [some (.inr (.inr (42, 0))), some (.inr (.inr (47, q1))), some (.inl (σ 47 q1 3))], [], (mup (mup s429 49 (64 * q1 + (σ 47 q1 3).toNat) ((s429 42 0 0).toNat) 1) 52 q1 ((σ 47 q1 3).toNat) (s429 42 0 0))) (Ps := [0 ≤ (σ 47 q1 3) ∧ (σ 47 q1 3) < ((gmo q1 : Nat) : Int)]) rfl (And.intro hc.1 trivial) ?_
  refine m_blk C0 (pX0_ok rfl) kX0_addOne_ok 34 6 (66, [some (.inr (.inr (42, 0))), some (.inr (.inr (47, q1))), some (.inl (σ 47 q1 3))], [], (mup (mup (mup s429 49 (64 * q1 + (σ 47 q1 3).toNat) ((s429 42 0 0).toNat) 1) 52 q1 ((σ 47 q1 3).toNat) (s429 42 0 0)) 47 q1 3 (mw ((s429 47 q1 3) + 1)))) (Ps := []) rfl trivial ?_
  refine m_blk C0 (pX0_ok rfl) kX0_addOne_ok 40 7 (79, [some (.inr (.inr (42, 0))), some (.inr (.inr (47, q1))), some (.inl (σ 47 q1 3))], [], (mup (mup (mup (mup s429 49 (64 * q1 + (σ 47 q1 3).toNat) ((s429 42 0 0).toNat) 1) 52 q1 ((σ 47 q1 3).toNat) (s429 42 0 0)) 47 q1 3 (mw ((s429 47 q1 3) + 1))) 43 0 ((s429 42 0 0).toNat) ((mup (mup (mup s429 49 (64 * q1 + (σ 47 q1 3).toNat) ((s429 42 0 0).toNat) 1) 52 q1 ((σ 47 q1 3).toNat) (s429 42 0 0)) 47 q1 3 (mw ((s429 47 q1 3) + 1))) 47 q1 0))) (Ps := [0 ≤ (s429 42 0 0) ∧ (s429 42 0 0) < 6]) rfl (And.intro hc.2 trivial) ?_
  refine m_blk C0 (pX0_ok rfl) kX0_addOne_ok 47 6 (89, [some (.inr (.inr (42, 0))), some (.inr (.inr (47, q1))), some (.inl (σ 47 q1 3))], [], (mup (mup (mup (mup (mup s429 49 (64 * q1 + (σ 47 q1 3).toNat) ((s429 42 0 0).toNat) 1) 52 q1 ((σ 47 q1 3).toNat) (s429 42 0 0)) 47 q1 3 (mw ((s429 47 q1 3) + 1))) 43 0 ((s429 42 0 0).toNat) ((mup (mup (mup s429 49 (64 * q1 + (σ 47 q1 3).toNat) ((s429 42 0 0).toNat) 1) 52 q1 ((σ 47 q1 3).toNat) (s429 42 0 0)) 47 q1 3 (mw ((s429 47 q1 3) + 1))) 47 q1 0)) 44 0 ((s429 42 0 0).toNat) (σ 47 q1 3))) (Ps := [0 ≤ (s429 42 0 0) ∧ (s429 42 0 0) < 6]) rfl (And.intro hc.2 trivial) ?_
  refine m_blk C0 (pX0_ok rfl) kX0_addOne_ok 53 6 (99, [some (.inr (.inr (42, 0))), some (.inr (.inr (47, q1))), some (.inl (σ 47 q1 3))], [], (mup (mup (mup (mup (mup (mup s429 49 (64 * q1 + (σ 47 q1 3).toNat) ((s429 42 0 0).toNat) 1) 52 q1 ((σ 47 q1 3).toNat) (s429 42 0 0)) 47 q1 3 (mw ((s429 47 q1 3) + 1))) 43 0 ((s429 42 0 0).toNat) ((mup (mup (mup s429 49 (64 * q1 + (σ 47 q1 3).toNat) ((s429 42 0 0).toNat) 1) 52 q1 ((σ 47 q1 3).toNat) (s429 42 0 0)) 47 q1 3 (mw ((s429 47 q1 3) + 1))) 47 q1 0)) 44 0 ((s429 42 0 0).toNat) (σ 47 q1 3)) 42 0 0 (mw ((s429 42 0 0) + 1)))) (Ps := []) rfl trivial ?_
  cases h
  exact m_vret C0 hFin (k_at kX0_addOne_ok 59 rfl)
set_option maxRecDepth 100000 in
set_option maxHeartbeats 4000000 in
theorem p_X0_addFew_12 {e : mEv} (hG : mGeo (mw0 e) lw_kept) (N : Nat) {f : mFx} (C0 : mCx f (mw0 e) sc0 cX0_addFew 6 RX0 lw_kept) (hFr : mFr f 4) : ∀ (n : Nat) (y1 : Nat) (x4 : Int) (x5 : Int) (σ : mS) (σ' : mS), L_X0_addFew_12 N n y1 x4 x5 σ = some σ' → mWW f (mw0 e) sc0 6 (74, [none, none, none, none, none, none], [], σ') → mWW f (mw0 e) sc0 6 (12, [some (.inr (.inr (42, 0))), some (.inr (.inr (47, y1))), some (.inr (.inr (5, 0))), some (.inr (.inr (37, 0))), some (.inl x4), some (.inl x5)], [], σ) := by
  intro n
  induction n with
  | zero =>
    intro y1 x4 x5 σ σ' h hK
    cases h
  | succ n IH =>
    intro y1 x4 x5 σ σ' h hK
    rw [L_X0_addFew_12_s] at h
    refine m_blk C0 (pX0_ok rfl) kX0_addFew_ok 6 3 (18, [some (.inr (.inr (42, 0))), some (.inr (.inr (47, y1))), some (.inr (.inr (5, 0))), some (.inr (.inr (37, 0))), some (.inl x4), some (.inl x5)], [.inl (σ 47 y1 1), .inl x5], σ) (Ps := []) rfl trivial ?_
    refine b_ige C0 kX0_addFew_ok 9 (off := 56) (tgt := 74) rfl (by decide) (fun hb439 => ?_) (fun hb439 => ?_)
    · replace h := g_pos hb439 h
      cases h
      refine m_mask [false, false, false, false, false, false] (ls' := [none, none, none, none, none, none]) rfl ?_
      exact hK
    · replace h := g_neg hb439 h
      refine m_blk C0 (pX0_ok rfl) kX0_addFew_ok 10 6 (29, [some (.inr (.inr (42, 0))), some (.inr (.inr (47, y1))), some (.inr (.inr (5, 0))), some (.inr (.inr (37, 0))), some (.inl x4), some (.inl x5)], [.inl x4, .inr (.inr (37, 0)), .inr (.inr (5, 0)), .inl x5, .inr (.inr (47, y1)), .inr (.inr (42, 0))], σ) (Ps := []) rfl trivial ?_
      obtain ⟨s406, hq438, h⟩ := g_bind h
      refine c_V (rest := []) C0 hFr (t_X0_averagePowers hG f.2.1 N hq438) lk_X0_117 (k_at kX0_addFew_ok 16 rfl) rfl rfl rfl rfl ⟨_, _, rfl⟩ (by decide) (by decide) (Nat.le_of_ble_eq_true rfl) ?_
      refine m_blk C0 (pX0_ok rfl) kX0_addFew_ok 17 1 (33, [some (.inr (.inr (42, 0))), some (.inr (.inr (47, y1))), some (.inr (.inr (5, 0))), some (.inr (.inr (37, 0))), some (.inl x4), some (.inl x5)], [.inr (.inr (47, y1))], s406) (Ps := []) rfl trivial ?_
      obtain ⟨⟨v408, s407⟩, hq437, h⟩ := g_bind h
      refine c_V (rest := []) C0 hFr (t_X3_isFull hG f.2.1 N hq437) lk_X0_72 (k_at kX0_addFew_ok 18 rfl) rfl rfl rfl rfl ⟨_, _, rfl⟩ (by decide) (by decide) (Nat.le_of_ble_eq_true rfl) ?_
      refine b_ne C0 kX0_addFew_ok 19 (off := 32) (tgt := 68) rfl (by decide) (fun hb436 => ?_) (fun hb436 => ?_)
      · replace h := g_neg hb436 h
        refine m_blk C0 (pX0_ok rfl) kX0_addFew_ok 34 2 (12, [some (.inr (.inr (42, 0))), some (.inr (.inr (47, y1))), some (.inr (.inr (5, 0))), some (.inr (.inr (37, 0))), some (.inl x4), some (.inl (mw (x5 + 1)))], [], s407) (Ps := []) rfl trivial ?_
        refine m_mask [true, true, true, true, true, true] (ls' := [some (.inr (.inr (42, 0))), some (.inr (.inr (47, y1))), some (.inr (.inr (5, 0))), some (.inr (.inr (37, 0))), some (.inl x4), some (.inl (mw (x5 + 1)))]) rfl ?_
        exact IH _ _ _ _ _ h hK
      · replace h := g_pos hb436 h
        refine m_blk C0 (pX0_ok rfl) kX0_addFew_ok 20 3 (45, [some (.inr (.inr (42, 0))), some (.inr (.inr (47, y1))), some (.inr (.inr (5, 0))), some (.inr (.inr (37, 0))), some (.inl x4), some (.inl x5)], [.inl 6, .inl (s407 42 0 0)], s407) (Ps := []) rfl trivial ?_
        refine b_ige C0 kX0_addFew_ok 23 (off := 23) (tgt := 68) rfl (by decide) (fun hb435 => ?_) (fun hb435 => ?_)
        · replace h := g_pos hb435 h
          refine m_blk C0 (pX0_ok rfl) kX0_addFew_ok 34 2 (12, [some (.inr (.inr (42, 0))), some (.inr (.inr (47, y1))), some (.inr (.inr (5, 0))), some (.inr (.inr (37, 0))), some (.inl x4), some (.inl (mw (x5 + 1)))], [], s407) (Ps := []) rfl trivial ?_
          refine m_mask [true, true, true, true, true, true] (ls' := [some (.inr (.inr (42, 0))), some (.inr (.inr (47, y1))), some (.inr (.inr (5, 0))), some (.inr (.inr (37, 0))), some (.inl x4), some (.inl (mw (x5 + 1)))]) rfl ?_
          exact IH _ _ _ _ _ h hK
        · replace h := g_neg hb435 h
          refine m_blk C0 (pX0_ok rfl) kX0_addFew_ok 24 5 (57, [some (.inr (.inr (42, 0))), some (.inr (.inr (47, y1))), some (.inr (.inr (5, 0))), some (.inr (.inr (37, 0))), some (.inl x4), some (.inl x5)], [.inl (s407 47 y1 3), .inr (.inr (46, 0)), .inr (.inr (47, y1))], s407) (Ps := []) rfl trivial ?_
          obtain ⟨⟨v425, s424⟩, hq434, h⟩ := g_bind h
          refine c_V (rest := []) C0 hFr (t_X3_keepIfFree_r46 hG f.2.1 N hq434) lk_X0_65 (k_at kX0_addFew_ok 29 rfl) rfl rfl rfl rfl ⟨_, _, rfl⟩ (by decide) (by decide) (Nat.le_of_ble_eq_true rfl) ?_
          refine b_eq C0 kX0_addFew_ok 30 (off := 8) (tgt := 68) rfl (by decide) (fun hb433 => ?_) (fun hb433 => ?_)
          · replace h := g_pos hb433 h
            refine m_blk C0 (pX0_ok rfl) kX0_addFew_ok 34 2 (12, [some (.inr (.inr (42, 0))), some (.inr (.inr (47, y1))), some (.inr (.inr (5, 0))), some (.inr (.inr (37, 0))), some (.inl x4), some (.inl (mw (x5 + 1)))], [], s424) (Ps := []) rfl trivial ?_
            refine m_mask [true, true, true, true, true, true] (ls' := [some (.inr (.inr (42, 0))), some (.inr (.inr (47, y1))), some (.inr (.inr (5, 0))), some (.inr (.inr (37, 0))), some (.inl x4), some (.inl (mw (x5 + 1)))]) rfl ?_
            exact IH _ _ _ _ _ h hK
          · replace h := g_neg hb433 h
            refine m_blk C0 (pX0_ok rfl) kX0_addFew_ok 31 2 (65, [some (.inr (.inr (42, 0))), some (.inr (.inr (47, y1))), some (.inr (.inr (5, 0))), some (.inr (.inr (37, 0))), some (.inl x4), some (.inl x5)], [.inr (.inr (47, y1)), .inr (.inr (42, 0))], s424) (Ps := []) rfl trivial ?_
            obtain ⟨s431, hq432, h⟩ := g_bind h
            refine c_V (rest := []) C0 hFr (t_X0_addOne hG f.2.1 N hq432) lk_X0_121 (k_at kX0_addFew_ok 33 rfl) rfl rfl rfl rfl ⟨_, _, rfl⟩ (by decide) (by decide) (Nat.le_of_ble_eq_true rfl) ?_
            refine m_blk C0 (pX0_ok rfl) kX0_addFew_ok 34 2 (12, [some (.inr (.inr (42, 0))), some (.inr (.inr (47, y1))), some (.inr (.inr (5, 0))), some (.inr (.inr (37, 0))), some (.inl x4), some (.inl (mw (x5 + 1)))], [], s431) (Ps := []) rfl trivial ?_
            refine m_mask [true, true, true, true, true, true] (ls' := [some (.inr (.inr (42, 0))), some (.inr (.inr (47, y1))), some (.inr (.inr (5, 0))), some (.inr (.inr (37, 0))), some (.inl x4), some (.inl (mw (x5 + 1)))]) rfl ?_
            exact IH _ _ _ _ _ h hK
set_option maxRecDepth 100000 in
set_option maxHeartbeats 4000000 in
theorem t_X0_addFew {e : mEv} (hG : mGeo (mw0 e) lw_kept) (l : Launch) (N : Nat) {q1 : Nat} {σ σ' : mS} (h : f_X0_addFew N q1 σ = some σ') : mMet l (mw0 e) lw_kept 4 yX0_addFew cX0_addFew 6 none [.inr (.inr (42, 0)), .inr (.inr (47, q1)), .inr (.inr (5, 0)), .inr (.inr (37, 0))] σ none σ' := by
  refine mMet_intro (plainFor_of_name (by decide)) hG (Nat.le_of_ble_eq_true rfl) (fun f hl hR C0 hFin => ?_)
  subst hl
  have hFr := mFr_of hR hFin
  unfold f_X0_addFew at h
  show mWW f (mw0 e) sc0 6 (0, [some (.inr (.inr (42, 0))), some (.inr (.inr (47, q1))), some (.inr (.inr (5, 0))), some (.inr (.inr (37, 0))), none, none], [], σ)
  refine m_blk C0 (pX0_ok rfl) kX0_addFew_ok 0 2 (4, [some (.inr (.inr (42, 0))), some (.inr (.inr (47, q1))), some (.inr (.inr (5, 0))), some (.inr (.inr (37, 0))), none, none], [.inl (σ 5 0 0)], σ) (Ps := []) rfl trivial ?_
  obtain ⟨⟨v369, s368⟩, hq442, h⟩ := g_bind h
  refine c_SN (rest := []) C0 hFr (t_X11_inverse hG f.2.1 N hq442) lk_X0_114 (k_at kX0_addFew_ok 2 rfl) rfl rfl rfl (by decide) (by decide) (Nat.le_of_ble_eq_true rfl) ?_
  refine m_blk C0 (pX0_ok rfl) kX0_addFew_ok 3 3 (12, [some (.inr (.inr (42, 0))), some (.inr (.inr (47, q1))), some (.inr (.inr (5, 0))), some (.inr (.inr (37, 0))), some (.inl v369), some (.inl 0)], [], s368) (Ps := []) rfl trivial ?_
  obtain ⟨s440, hq441, h⟩ := g_bind h
  refine m_mask [true, true, true, true, true, true] (ls' := [some (.inr (.inr (42, 0))), some (.inr (.inr (47, q1))), some (.inr (.inr (5, 0))), some (.inr (.inr (37, 0))), some (.inl v369), some (.inl 0)]) rfl ?_
  refine p_X0_addFew_12 hG N C0 hFr N _ _ _ _ _ hq441 ?_
  cases h
  exact m_vret C0 hFin (k_at kX0_addFew_ok 36 rfl)
set_option maxRecDepth 100000 in
set_option maxHeartbeats 4000000 in
theorem p_X0_find_19 {e : mEv} (hG : mGeo (mw0 e) lw_kept) (N : Nat) {f : mFx} (C0 : mCx f (mw0 e) sc0 cX0_find 4 RX0 lw_kept) (hFr : mFr f 6) : ∀ (n : Nat) (x3 : Int) (σ : mS) (σ' : mS), L_X0_find_19 N n x3 σ = some σ' → mWW f (mw0 e) sc0 4 (63, [some (.inr (.inr (42, 0))), none, none, none], [], σ') → mWW f (mw0 e) sc0 4 (19, [some (.inr (.inr (42, 0))), some (.inr (.inr (5, 0))), some (.inr (.inr (37, 0))), some (.inl x3)], [], σ) := by
  intro n
  induction n with
  | zero =>
    intro x3 σ σ' h hK
    cases h
  | succ n IH =>
    intro x3 σ σ' h hK
    rw [L_X0_find_19_s] at h
    refine m_blk C0 (pX0_ok rfl) kX0_find_ok 11 2 (22, [some (.inr (.inr (42, 0))), some (.inr (.inr (5, 0))), some (.inr (.inr (37, 0))), some (.inl x3)], [.inl 6, .inl x3], σ) (Ps := []) rfl trivial ?_
    refine b_igt C0 kX0_find_ok 13 (off := 41) (tgt := 63) rfl (by decide) (fun hb447 => ?_) (fun hb447 => ?_)
    · replace h := g_pos hb447 h
      cases h
      refine m_mask [true, false, false, false] (ls' := [some (.inr (.inr (42, 0))), none, none, none]) rfl ?_
      exact hK
    · replace h := g_neg hb447 h
      obtain ⟨hc, h⟩ := g_if h
      refine m_blk C0 (pX0_ok rfl) kX0_find_ok 14 4 (31, [some (.inr (.inr (42, 0))), some (.inr (.inr (5, 0))), some (.inr (.inr (37, 0))), some (.inl x3)], [.inr (.inr (47, x3.toNat))], σ) (Ps := [0 ≤ x3 ∧ x3 < 7]) rfl (And.intro hc trivial) ?_
      obtain ⟨s316, hq446, h⟩ := g_bind h
      refine c_V (rest := []) C0 hFr (t_X3_empty hG f.2.1 N hq446) lk_X0_47 (k_at kX0_find_ok 18 rfl) rfl rfl rfl rfl ⟨_, _, rfl⟩ (by decide) (by decide) (Nat.le_of_ble_eq_true rfl) ?_
      obtain ⟨hc, h⟩ := g_if h
      refine m_blk C0 (pX0_ok rfl) kX0_find_ok 19 6 (42, [some (.inr (.inr (42, 0))), some (.inr (.inr (5, 0))), some (.inr (.inr (37, 0))), some (.inl x3)], [.inr (.inr (37, 0)), .inr (.inr (47, x3.toNat)), .inr (.inr (42, 0))], s316) (Ps := [0 ≤ x3 ∧ x3 < 7]) rfl (And.intro hc trivial) ?_
      obtain ⟨s367, hq445, h⟩ := g_bind h
      refine c_V (rest := []) C0 hFr (t_X0_addProducts hG f.2.1 N hq445) lk_X0_50 (k_at kX0_find_ok 25 rfl) rfl rfl rfl rfl ⟨_, _, rfl⟩ (by decide) (by decide) (Nat.le_of_ble_eq_true rfl) ?_
      obtain ⟨hc, h⟩ := g_if h
      refine m_blk C0 (pX0_ok rfl) kX0_find_ok 26 7 (54, [some (.inr (.inr (42, 0))), some (.inr (.inr (5, 0))), some (.inr (.inr (37, 0))), some (.inl x3)], [.inr (.inr (37, 0)), .inr (.inr (5, 0)), .inr (.inr (47, x3.toNat)), .inr (.inr (42, 0))], s367) (Ps := [0 ≤ x3 ∧ x3 < 7]) rfl (And.intro hc trivial) ?_
      obtain ⟨s443, hq444, h⟩ := g_bind h
      refine c_V (rest := []) C0 hFr (t_X0_addFew hG f.2.1 N hq444) lk_X0_54 (k_at kX0_find_ok 33 rfl) rfl rfl rfl rfl ⟨_, _, rfl⟩ (by decide) (by decide) (Nat.le_of_ble_eq_true rfl) ?_
      refine m_blk C0 (pX0_ok rfl) kX0_find_ok 34 2 (19, [some (.inr (.inr (42, 0))), some (.inr (.inr (5, 0))), some (.inr (.inr (37, 0))), some (.inl (mw (x3 + 1)))], [], s443) (Ps := []) rfl trivial ?_
      refine m_mask [true, true, true, true] (ls' := [some (.inr (.inr (42, 0))), some (.inr (.inr (5, 0))), some (.inr (.inr (37, 0))), some (.inl (mw (x3 + 1)))]) rfl ?_
      exact IH _ _ _ h hK
set_option maxRecDepth 100000 in
set_option maxHeartbeats 4000000 in
theorem t_X0_find {e : mEv} (hG : mGeo (mw0 e) lw_kept) (l : Launch) (N : Nat) {σ σ' : mS} (h : f_X0_find N σ = some σ') : mMet l (mw0 e) lw_kept 6 yX0_find cX0_find 4 none [.inr (.inr (42, 0)), .inr (.inr (5, 0)), .inr (.inr (37, 0))] σ none σ' := by
  refine mMet_intro (plainFor_of_name (by decide)) hG (Nat.le_of_ble_eq_true rfl) (fun f hl hR C0 hFin => ?_)
  subst hl
  have hFr := mFr_of hR hFin
  unfold f_X0_find at h
  show mWW f (mw0 e) sc0 4 (0, [some (.inr (.inr (42, 0))), some (.inr (.inr (5, 0))), some (.inr (.inr (37, 0))), none], [], σ)
  refine m_blk C0 (pX0_ok rfl) kX0_find_ok 0 2 (4, [some (.inr (.inr (42, 0))), some (.inr (.inr (5, 0))), some (.inr (.inr (37, 0))), none], [.inl (σ 42 0 1)], σ) (Ps := []) rfl trivial ?_
  refine b_eq C0 kX0_find_ok 2 (off := 4) (tgt := 8) rfl (by decide) (fun hb451 => ?_) (fun hb451 => ?_)
  · replace h := g_pos hb451 h
    refine m_blk C0 (pX0_ok rfl) kX0_find_ok 4 3 (13, [some (.inr (.inr (42, 0))), some (.inr (.inr (5, 0))), some (.inr (.inr (37, 0))), none], [], (mup σ 42 0 0 0)) (Ps := []) rfl trivial ?_
    refine m_blk C0 (pX0_ok rfl) kX0_find_ok 7 1 (14, [some (.inr (.inr (42, 0))), some (.inr (.inr (5, 0))), some (.inr (.inr (37, 0))), none], [.inr (.inr (42, 0))], (mup σ 42 0 0 0)) (Ps := []) rfl trivial ?_
    obtain ⟨s315, hq450, h⟩ := g_bind h
    refine c_V (rest := []) C0 hFr (t_X0_addProductOfNothing hG f.2.1 N hq450) lk_X0_44 (k_at kX0_find_ok 8 rfl) rfl rfl rfl rfl ⟨_, _, rfl⟩ (by decide) (by decide) (Nat.le_of_ble_eq_true rfl) ?_
    refine m_blk C0 (pX0_ok rfl) kX0_find_ok 9 2 (19, [some (.inr (.inr (42, 0))), some (.inr (.inr (5, 0))), some (.inr (.inr (37, 0))), some (.inl 1)], [], s315) (Ps := []) rfl trivial ?_
    obtain ⟨s448, hq449, h⟩ := g_bind h
    refine m_mask [true, true, true, true] (ls' := [some (.inr (.inr (42, 0))), some (.inr (.inr (5, 0))), some (.inr (.inr (37, 0))), some (.inl 1)]) rfl ?_
    refine p_X0_find_19 hG N C0 hFr N _ _ _ hq449 ?_
    refine m_blk C0 (pX0_ok rfl) kX0_find_ok 36 3 (68, [some (.inr (.inr (42, 0))), none, none, none], [], (mup s448 42 0 1 1)) (Ps := [(1 : Int) = 0 ∨ (1 : Int) = 1]) rfl (And.intro (by decide) trivial) ?_
    cases h
    exact m_vret C0 hFin (k_at kX0_find_ok 39 rfl)
  · replace h := g_neg hb451 h
    cases h
    exact m_vret C0 hFin (k_at kX0_find_ok 3 rfl)
set_option maxRecDepth 100000 in
set_option maxHeartbeats 4000000 in
theorem p_X0_degreesTogether_4 {e : mEv} (hG : mGeo (mw0 e) lw_kept) (N : Nat) {f : mFx} (C0 : mCx f (mw0 e) sc0 cX0_degreesTogether 3 RX0 lw_kept) (hFr : mFr f 0) : ∀ (n : Nat) (x1 : Int) (x2 : Int) (σ : mS) (o1 : Int) (σ' : mS), L_X0_degreesTogether_4 N n x1 x2 σ = some (o1, σ') → mWW f (mw0 e) sc0 3 (27, [none, some (.inl o1), none], [], σ') → mWW f (mw0 e) sc0 3 (4, [some (.inr (.inr (42, 0))), some (.inl x1), some (.inl x2)], [], σ) := by
  intro n
  induction n with
  | zero =>
    intro x1 x2 σ o1 σ' h hK
    cases h
  | succ n IH =>
    intro x1 x2 σ o1 σ' h hK
    rw [L_X0_degreesTogether_4_s] at h
    refine m_blk C0 (pX0_ok rfl) kX0_degreesTogether_ok 4 3 (9, [some (.inr (.inr (42, 0))), some (.inl x1), some (.inl x2)], [.inl (σ 42 0 0), .inl x2], σ) (Ps := []) rfl trivial ?_
    refine b_ige C0 kX0_degreesTogether_ok 7 (off := 18) (tgt := 27) rfl (by decide) (fun hb455 => ?_) (fun hb455 => ?_)
    · replace h := g_pos hb455 h
      cases h
      refine m_mask [false, true, false] (ls' := [none, some (.inl x1), none]) rfl ?_
      exact hK
    · replace h := g_neg hb455 h
      obtain ⟨hc, h⟩ := g_if h
      refine m_blk C0 (pX0_ok rfl) kX0_degreesTogether_ok 8 9 (4, [some (.inr (.inr (42, 0))), some (.inl (mw (x1 * (σ 43 0 x2.toNat)))), some (.inl (mw (x2 + 1)))], [], σ) (Ps := [0 ≤ x2 ∧ x2 < 6]) rfl (And.intro hc trivial) ?_
      refine m_mask [true, true, true] (ls' := [some (.inr (.inr (42, 0))), some (.inl (mw (x1 * (σ 43 0 x2.toNat)))), some (.inl (mw (x2 + 1)))]) rfl ?_
      exact IH _ _ _ _ _ h hK
set_option maxRecDepth 100000 in
set_option maxHeartbeats 4000000 in
theorem t_X0_degreesTogether {e : mEv} (hG : mGeo (mw0 e) lw_kept) (l : Launch) (N : Nat) {σ σ' : mS} {v : Int} (h : f_X0_degreesTogether N σ = some (v, σ')) : mMet l (mw0 e) lw_kept 0 yX0_degreesTogether cX0_degreesTogether 3 (some .int) [.inr (.inr (42, 0))] σ (some (.inl v)) σ' := by
  refine mMet_intro (plainFor_of_name (by decide)) hG (Nat.le_of_ble_eq_true rfl) (fun f hl hR C0 hFin => ?_)
  subst hl
  have hFr := mFr_of hR hFin
  unfold f_X0_degreesTogether at h
  show mWW f (mw0 e) sc0 3 (0, [some (.inr (.inr (42, 0))), none, none], [], σ)
  refine m_blk C0 (pX0_ok rfl) kX0_degreesTogether_ok 0 4 (4, [some (.inr (.inr (42, 0))), some (.inl 1), some (.inl 0)], [], σ) (Ps := []) rfl trivial ?_
  obtain ⟨⟨o457, s456⟩, hq458, h⟩ := g_bind h
  refine m_mask [true, true, true] (ls' := [some (.inr (.inr (42, 0))), some (.inl 1), some (.inl 0)]) rfl ?_
  refine p_X0_degreesTogether_4 hG N C0 hFr N _ _ _ _ _ hq458 ?_
  refine m_blk C0 (pX0_ok rfl) kX0_degreesTogether_ok 17 1 (28, [none, some (.inl o457), none], [.inl o457], s456) (Ps := []) rfl trivial ?_
  cases h
  exact m_iret C0 hFin (k_at kX0_degreesTogether_ok 18 rfl) (Or.inl rfl)
set_option maxRecDepth 100000 in
set_option maxHeartbeats 4000000 in
theorem t_X11_about {e : mEv} (hG : mGeo (mw0 e) lw_kept) (l : Launch) (N : Nat) {a1 : Int} {σ σ' : mS} {v : Int} (h : f_X11_about N a1 σ = some (v, σ')) : mMet l (mw0 e) lw_kept 7 yX11_about cX11_about 2 (some .int) [.inr (.inr (0, 0)), .inl a1] σ (some (.inl v)) σ' := by
  refine mMet_intro (plainFor_of_name (by decide)) hG (Nat.le_of_ble_eq_true rfl) (fun f hl hR C0 hFin => ?_)
  subst hl
  have hFr := mFr_of hR hFin
  unfold f_X11_about at h
  show mWW f (mw0 e) sc0 2 (0, [some (.inr (.inr (0, 0))), some (.inl a1)], [], σ)
  refine m_blk C0 (pX11_ok rfl) kX11_about_ok 0 1 (1, [some (.inr (.inr (0, 0))), some (.inl a1)], [.inl a1], σ) (Ps := []) rfl trivial ?_
  refine b_tab C0 kX11_about_ok 1 (tgt := 156) rfl (fun n hn1 hn2 => ?_) (by decide) (fun hn => ?_)
  · rcases (show n = 0 ∨ n = 1 ∨ n = 2 ∨ n = 3 ∨ n = 4 ∨ n = 5 ∨ n = 6 ∨ n = 7 by omega) with rfl | rfl | rfl | rfl | rfl | rfl | rfl | rfl
    · have hb463 : a1 = 0 := hn1
      replace h := g_pos hb463 h
      refine ⟨_, 48, rfl, by decide, ?_⟩
      refine m_blk C0 (pX11_ok rfl) kX11_about_ok 2 3 (55, [some (.inr (.inr (0, 0))), some (.inl a1)], [.inl (σ 5 0 0)], σ) (Ps := []) rfl trivial ?_
      cases h
      exact m_iret C0 hFin (k_at kX11_about_ok 5 rfl) (Or.inl rfl)
    · have hb463 : a1 = 1 := hn1
      replace h := g_neg (show ¬ a1 = 0 by omega) h
      replace h := g_pos hb463 h
      refine ⟨_, 56, rfl, by decide, ?_⟩
      refine m_blk C0 (pX11_ok rfl) kX11_about_ok 6 2 (60, [some (.inr (.inr (0, 0))), some (.inl a1)], [.inr (.inr (5, 0))], σ) (Ps := []) rfl trivial ?_
      obtain ⟨⟨v226, s225⟩, hq227, h⟩ := g_bind h
      refine c_V (rest := []) C0 hFr (t_X1_kind hG f.2.1 N hq227) lk_X11_89 (k_at kX11_about_ok 8 rfl) rfl rfl rfl rfl ⟨_, _, rfl⟩ (by decide) (by decide) (Nat.le_of_ble_eq_true rfl) ?_
      cases h
      exact m_iret C0 hFin (k_at kX11_about_ok 9 rfl) (Or.inl rfl)
    · have hb463 : a1 = 2 := hn1
      replace h := g_neg (show ¬ a1 = 0 by omega) h
      replace h := g_neg (show ¬ a1 = 1 by omega) h
      replace h := g_pos hb463 h
      refine ⟨_, 64, rfl, by decide, ?_⟩
      refine m_blk C0 (pX11_ok rfl) kX11_about_ok 10 3 (71, [some (.inr (.inr (0, 0))), some (.inl a1)], [.inl (σ 5 0 2)], σ) (Ps := []) rfl trivial ?_
      cases h
      exact m_iret C0 hFin (k_at kX11_about_ok 13 rfl) (Or.inl rfl)
    · have hb463 : a1 = 3 := hn1
      replace h := g_neg (show ¬ a1 = 0 by omega) h
      replace h := g_neg (show ¬ a1 = 1 by omega) h
      replace h := g_neg (show ¬ a1 = 2 by omega) h
      replace h := g_pos hb463 h
      refine ⟨_, 72, rfl, by decide, ?_⟩
      refine m_blk C0 (pX11_ok rfl) kX11_about_ok 14 3 (79, [some (.inr (.inr (0, 0))), some (.inl a1)], [.inl (σ 26 0 0)], σ) (Ps := []) rfl trivial ?_
      cases h
      exact m_iret C0 hFin (k_at kX11_about_ok 17 rfl) (Or.inl rfl)
    · have hb463 : a1 = 4 := hn1
      replace h := g_neg (show ¬ a1 = 0 by omega) h
      replace h := g_neg (show ¬ a1 = 1 by omega) h
      replace h := g_neg (show ¬ a1 = 2 by omega) h
      replace h := g_neg (show ¬ a1 = 3 by omega) h
      replace h := g_pos hb463 h
      refine ⟨_, 80, rfl, by decide, ?_⟩
      refine m_blk C0 (pX11_ok rfl) kX11_about_ok 18 3 (87, [some (.inr (.inr (0, 0))), some (.inl a1)], [.inl (σ 5 0 3)], σ) (Ps := []) rfl trivial ?_
      cases h
      exact m_iret C0 hFin (k_at kX11_about_ok 21 rfl) (Or.inl rfl)
    · have hb463 : a1 = 5 := hn1
      replace h := g_neg (show ¬ a1 = 0 by omega) h
      replace h := g_neg (show ¬ a1 = 1 by omega) h
      replace h := g_neg (show ¬ a1 = 2 by omega) h
      replace h := g_neg (show ¬ a1 = 3 by omega) h
      replace h := g_neg (show ¬ a1 = 4 by omega) h
      replace h := g_pos hb463 h
      refine ⟨_, 88, rfl, by decide, ?_⟩
      refine m_blk C0 (pX11_ok rfl) kX11_about_ok 22 2 (92, [some (.inr (.inr (0, 0))), some (.inl a1)], [.inr (.inr (5, 0))], σ) (Ps := []) rfl trivial ?_
      obtain ⟨⟨v254, s253⟩, hq256, h⟩ := g_bind h
      refine c_V (rest := []) C0 hFr (t_X1_isMadeOfMirrors hG f.2.1 N hq256) lk_X11_102 (k_at kX11_about_ok 24 rfl) rfl rfl rfl rfl ⟨_, _, rfl⟩ (by decide) (by decide) (Nat.le_of_ble_eq_true rfl) ?_
      refine b_eq C0 kX11_about_ok 25 (off := 7) (tgt := 102) rfl (by decide) (fun hb255 => ?_) (fun hb255 => ?_)
      · replace h := g_pos hb255 h
        refine m_blk C0 (pX11_ok rfl) kX11_about_ok 28 1 (103, [some (.inr (.inr (0, 0))), some (.inl a1)], [.inl 0], s253) (Ps := []) rfl trivial ?_
        cases h
        exact m_iret C0 hFin (k_at kX11_about_ok 29 rfl) (Or.inl rfl)
      · replace h := g_neg hb255 h
        refine m_blk C0 (pX11_ok rfl) kX11_about_ok 26 2 (103, [some (.inr (.inr (0, 0))), some (.inl a1)], [.inl 1], s253) (Ps := []) rfl trivial ?_
        cases h
        exact m_iret C0 hFin (k_at kX11_about_ok 29 rfl) (Or.inl rfl)
    · have hb463 : a1 = 6 := hn1
      replace h := g_neg (show ¬ a1 = 0 by omega) h
      replace h := g_neg (show ¬ a1 = 1 by omega) h
      replace h := g_neg (show ¬ a1 = 2 by omega) h
      replace h := g_neg (show ¬ a1 = 3 by omega) h
      replace h := g_neg (show ¬ a1 = 4 by omega) h
      replace h := g_neg (show ¬ a1 = 5 by omega) h
      replace h := g_pos hb463 h
      refine ⟨_, 104, rfl, by decide, ?_⟩
      refine m_blk C0 (pX11_ok rfl) kX11_about_ok 30 7 (119, [some (.inr (.inr (0, 0))), some (.inl a1)], [.inr (.inr (37, 0)), .inr (.inr (5, 0)), .inr (.inr (42, 0))], σ) (Ps := []) rfl trivial ?_
      obtain ⟨s452, hq453, h⟩ := g_bind h
      refine c_V (rest := []) C0 hFr (t_X0_find hG f.2.1 N hq453) lk_X11_110 (k_at kX11_about_ok 37 rfl) rfl rfl rfl rfl ⟨_, _, rfl⟩ (by decide) (by decide) (Nat.le_of_ble_eq_true rfl) ?_
      refine m_blk C0 (pX11_ok rfl) kX11_about_ok 38 3 (129, [some (.inr (.inr (0, 0))), some (.inl a1)], [.inl (s452 42 0 0)], s452) (Ps := []) rfl trivial ?_
      cases h
      exact m_iret C0 hFin (k_at kX11_about_ok 41 rfl) (Or.inl rfl)
    · have hb463 : a1 = 7 := hn1
      replace h := g_neg (show ¬ a1 = 0 by omega) h
      replace h := g_neg (show ¬ a1 = 1 by omega) h
      replace h := g_neg (show ¬ a1 = 2 by omega) h
      replace h := g_neg (show ¬ a1 = 3 by omega) h
      replace h := g_neg (show ¬ a1 = 4 by omega) h
      replace h := g_neg (show ¬ a1 = 5 by omega) h
      replace h := g_neg (show ¬ a1 = 6 by omega) h
      replace h := g_pos hb463 h
      refine ⟨_, 130, rfl, by decide, ?_⟩
      refine m_blk C0 (pX11_ok rfl) kX11_about_ok 42 7 (145, [some (.inr (.inr (0, 0))), some (.inl a1)], [.inr (.inr (37, 0)), .inr (.inr (5, 0)), .inr (.inr (42, 0))], σ) (Ps := []) rfl trivial ?_
      obtain ⟨s454, hq462, h⟩ := g_bind h
      refine c_V (rest := []) C0 hFr (t_X0_find hG f.2.1 N hq462) lk_X11_110 (k_at kX11_about_ok 49 rfl) rfl rfl rfl rfl ⟨_, _, rfl⟩ (by decide) (by decide) (Nat.le_of_ble_eq_true rfl) ?_
      refine m_blk C0 (pX11_ok rfl) kX11_about_ok 50 2 (152, [some (.inr (.inr (0, 0))), some (.inl a1)], [.inr (.inr (42, 0))], s454) (Ps := []) rfl trivial ?_
      obtain ⟨⟨v460, s459⟩, hq461, h⟩ := g_bind h
      refine c_V (rest := []) C0 hFr (t_X0_degreesTogether hG f.2.1 N hq461) lk_X11_115 (k_at kX11_about_ok 52 rfl) rfl rfl rfl rfl ⟨_, _, rfl⟩ (by decide) (by decide) (Nat.le_of_ble_eq_true rfl) ?_
      cases h
      exact m_iret C0 hFin (k_at kX11_about_ok 53 rfl) (Or.inl rfl)
  · have hn0 := hn
    replace h := g_neg (show ¬ a1 = 0 by omega) h
    replace h := g_neg (show ¬ a1 = 1 by omega) h
    replace h := g_neg (show ¬ a1 = 2 by omega) h
    replace h := g_neg (show ¬ a1 = 3 by omega) h
    replace h := g_neg (show ¬ a1 = 4 by omega) h
    replace h := g_neg (show ¬ a1 = 5 by omega) h
    replace h := g_neg (show ¬ a1 = 6 by omega) h
    replace h := g_neg (show ¬ a1 = 7 by omega) h
    refine m_blk C0 (pX11_ok rfl) kX11_about_ok 54 1 (157, [some (.inr (.inr (0, 0))), some (.inl a1)], [.inl (-1)], σ) (Ps := []) rfl trivial ?_
    cases h
    exact m_iret C0 hFin (k_at kX11_about_ok 55 rfl) (Or.inl rfl)
set_option maxRecDepth 100000 in
set_option maxHeartbeats 4000000 in
theorem t_X1_has {e : mEv} (hG : mGeo (mw0 e) lw_kept) (l : Launch) (N : Nat) {a1 : Int} {σ σ' : mS} {v : Int} (h : f_X1_has N a1 σ = some (v, σ')) : mMet l (mw0 e) lw_kept 0 yX1_has cX1_has 2 (some .boolean) [.inr (.inr (5, 0)), .inl a1] σ (some (.inl v)) σ' := by
  refine mMet_intro (plainFor_of_name (by decide)) hG (Nat.le_of_ble_eq_true rfl) (fun f hl hR C0 hFin => ?_)
  subst hl
  have hFr := mFr_of hR hFin
  unfold f_X1_has at h
  show mWW f (mw0 e) sc0 2 (0, [some (.inr (.inr (5, 0))), some (.inl a1)], [], σ)
  refine m_blk C0 (pX1_ok rfl) kX1_has_ok 0 1 (1, [some (.inr (.inr (5, 0))), some (.inl a1)], [.inl a1], σ) (Ps := []) rfl trivial ?_
  refine b_lt C0 kX1_has_ok 1 (off := 15) (tgt := 16) rfl (by decide) (fun hb465 => ?_) (fun hb465 => ?_)
  · replace h := g_pos hb465 h
    refine m_blk C0 (pX1_ok rfl) kX1_has_ok 8 1 (17, [some (.inr (.inr (5, 0))), some (.inl a1)], [.inl 0], σ) (Ps := []) rfl trivial ?_
    cases h
    exact m_iret C0 hFin (k_at kX1_has_ok 9 rfl) (Or.inr ⟨rfl, by decide⟩)
  · replace h := g_neg hb465 h
    refine m_blk C0 (pX1_ok rfl) kX1_has_ok 2 3 (9, [some (.inr (.inr (5, 0))), some (.inl a1)], [.inl (σ 5 0 0), .inl a1], σ) (Ps := []) rfl trivial ?_
    refine b_ige C0 kX1_has_ok 5 (off := 7) (tgt := 16) rfl (by decide) (fun hb464 => ?_) (fun hb464 => ?_)
    · replace h := g_pos hb464 h
      refine m_blk C0 (pX1_ok rfl) kX1_has_ok 8 1 (17, [some (.inr (.inr (5, 0))), some (.inl a1)], [.inl 0], σ) (Ps := []) rfl trivial ?_
      cases h
      exact m_iret C0 hFin (k_at kX1_has_ok 9 rfl) (Or.inr ⟨rfl, by decide⟩)
    · replace h := g_neg hb464 h
      refine m_blk C0 (pX1_ok rfl) kX1_has_ok 6 2 (17, [some (.inr (.inr (5, 0))), some (.inl a1)], [.inl 1], σ) (Ps := []) rfl trivial ?_
      cases h
      exact m_iret C0 hFin (k_at kX1_has_ok 9 rfl) (Or.inr ⟨rfl, by decide⟩)
set_option maxRecDepth 100000 in
set_option maxHeartbeats 4000000 in
theorem t_X11_element {e : mEv} (hG : mGeo (mw0 e) lw_kept) (l : Launch) (N : Nat) {a1 : Int} {a2 : Int} {σ σ' : mS} {v : Int} (h : f_X11_element N a1 a2 σ = some (v, σ')) : mMet l (mw0 e) lw_kept 1 yX11_element cX11_element 3 (some .int) [.inr (.inr (0, 0)), .inl a1, .inl a2] σ (some (.inl v)) σ' := by
  refine mMet_intro (plainFor_of_name (by decide)) hG (Nat.le_of_ble_eq_true rfl) (fun f hl hR C0 hFin => ?_)
  subst hl
  have hFr := mFr_of hR hFin
  unfold f_X11_element at h
  show mWW f (mw0 e) sc0 3 (0, [some (.inr (.inr (0, 0))), some (.inl a1), some (.inl a2)], [], σ)
  refine m_blk C0 (pX11_ok rfl) kX11_element_ok 0 3 (5, [some (.inr (.inr (0, 0))), some (.inl a1), some (.inl a2)], [.inl a1, .inr (.inr (5, 0))], σ) (Ps := []) rfl trivial ?_
  obtain ⟨⟨v467, s466⟩, hq471, h⟩ := g_bind h
  refine c_V (rest := []) C0 hFr (t_X1_has hG f.2.1 N hq471) lk_X11_118 (k_at kX11_element_ok 3 rfl) rfl rfl rfl rfl ⟨_, _, rfl⟩ (by decide) (by decide) (Nat.le_of_ble_eq_true rfl) ?_
  refine b_eq C0 kX11_element_ok 4 (off := 26) (tgt := 34) rfl (by decide) (fun hb470 => ?_) (fun hb470 => ?_)
  · replace h := g_pos hb470 h
    refine m_blk C0 (pX11_ok rfl) kX11_element_ok 18 1 (35, [some (.inr (.inr (0, 0))), some (.inl a1), some (.inl a2)], [.inl 0], s466) (Ps := []) rfl trivial ?_
    cases h
    exact m_iret C0 hFin (k_at kX11_element_ok 19 rfl) (Or.inl rfl)
  · replace h := g_neg hb470 h
    refine m_blk C0 (pX11_ok rfl) kX11_element_ok 5 1 (12, [some (.inr (.inr (0, 0))), some (.inl a1), some (.inl a2)], [.inl a2], s466) (Ps := []) rfl trivial ?_
    refine b_lt C0 kX11_element_ok 6 (off := 22) (tgt := 34) rfl (by decide) (fun hb469 => ?_) (fun hb469 => ?_)
    · replace h := g_pos hb469 h
      refine m_blk C0 (pX11_ok rfl) kX11_element_ok 18 1 (35, [some (.inr (.inr (0, 0))), some (.inl a1), some (.inl a2)], [.inl 0], s466) (Ps := []) rfl trivial ?_
      cases h
      exact m_iret C0 hFin (k_at kX11_element_ok 19 rfl) (Or.inl rfl)
    · replace h := g_neg hb469 h
      refine m_blk C0 (pX11_ok rfl) kX11_element_ok 7 2 (17, [some (.inr (.inr (0, 0))), some (.inl a1), some (.inl a2)], [.inl 3, .inl a2], s466) (Ps := []) rfl trivial ?_
      refine b_ige C0 kX11_element_ok 9 (off := 17) (tgt := 34) rfl (by decide) (fun hb468 => ?_) (fun hb468 => ?_)
      · replace h := g_pos hb468 h
        refine m_blk C0 (pX11_ok rfl) kX11_element_ok 18 1 (35, [some (.inr (.inr (0, 0))), some (.inl a1), some (.inl a2)], [.inl 0], s466) (Ps := []) rfl trivial ?_
        cases h
        exact m_iret C0 hFin (k_at kX11_element_ok 19 rfl) (Or.inl rfl)
      · replace h := g_neg hb468 h
        obtain ⟨hc, h⟩ := g_if h
        refine m_blk C0 (pX11_ok rfl) kX11_element_ok 10 8 (35, [some (.inr (.inr (0, 0))), some (.inl a1), some (.inl a2)], [.inl (s466 7 a1.toNat a2.toNat)], s466) (Ps := [0 ≤ a1 ∧ a1 < 48, 0 ≤ a2 ∧ a2 < 3]) rfl (And.intro hc.1 (And.intro hc.2 trivial)) ?_
        cases h
        exact m_iret C0 hFin (k_at kX11_element_ok 19 rfl) (Or.inl rfl)
set_option maxRecDepth 100000 in
set_option maxHeartbeats 4000000 in
theorem t_X11_times {e : mEv} (hG : mGeo (mw0 e) lw_kept) (l : Launch) (N : Nat) {a1 : Int} {a2 : Int} {σ σ' : mS} {v : Int} (h : f_X11_times N a1 a2 σ = some (v, σ')) : mMet l (mw0 e) lw_kept 1 yX11_times cX11_times 3 (some .int) [.inr (.inr (0, 0)), .inl a1, .inl a2] σ (some (.inl v)) σ' := by
  refine mMet_intro (plainFor_of_name (by decide)) hG (Nat.le_of_ble_eq_true rfl) (fun f hl hR C0 hFin => ?_)
  subst hl
  have hFr := mFr_of hR hFin
  unfold f_X11_times at h
  show mWW f (mw0 e) sc0 3 (0, [some (.inr (.inr (0, 0))), some (.inl a1), some (.inl a2)], [], σ)
  refine m_blk C0 (pX11_ok rfl) kX11_times_ok 0 3 (5, [some (.inr (.inr (0, 0))), some (.inl a1), some (.inl a2)], [.inl a1, .inr (.inr (5, 0))], σ) (Ps := []) rfl trivial ?_
  obtain ⟨⟨v473, s472⟩, hq479, h⟩ := g_bind h
  refine c_V (rest := []) C0 hFr (t_X1_has hG f.2.1 N hq479) lk_X11_118 (k_at kX11_times_ok 3 rfl) rfl rfl rfl rfl ⟨_, _, rfl⟩ (by decide) (by decide) (Nat.le_of_ble_eq_true rfl) ?_
  refine b_eq C0 kX11_times_ok 4 (off := 28) (tgt := 36) rfl (by decide) (fun hb478 => ?_) (fun hb478 => ?_)
  · replace h := g_pos hb478 h
    refine m_blk C0 (pX11_ok rfl) kX11_times_ok 18 1 (37, [some (.inr (.inr (0, 0))), some (.inl a1), some (.inl a2)], [.inl (-1)], s472) (Ps := []) rfl trivial ?_
    cases h
    exact m_iret C0 hFin (k_at kX11_times_ok 19 rfl) (Or.inl rfl)
  · replace h := g_neg hb478 h
    refine m_blk C0 (pX11_ok rfl) kX11_times_ok 5 3 (16, [some (.inr (.inr (0, 0))), some (.inl a1), some (.inl a2)], [.inl a2, .inr (.inr (5, 0))], s472) (Ps := []) rfl trivial ?_
    obtain ⟨⟨v475, s474⟩, hq477, h⟩ := g_bind h
    refine c_V (rest := []) C0 hFr (t_X1_has hG f.2.1 N hq477) lk_X11_118 (k_at kX11_times_ok 8 rfl) rfl rfl rfl rfl ⟨_, _, rfl⟩ (by decide) (by decide) (Nat.le_of_ble_eq_true rfl) ?_
    refine b_eq C0 kX11_times_ok 9 (off := 17) (tgt := 36) rfl (by decide) (fun hb476 => ?_) (fun hb476 => ?_)
    · replace h := g_pos hb476 h
      refine m_blk C0 (pX11_ok rfl) kX11_times_ok 18 1 (37, [some (.inr (.inr (0, 0))), some (.inl a1), some (.inl a2)], [.inl (-1)], s474) (Ps := []) rfl trivial ?_
      cases h
      exact m_iret C0 hFin (k_at kX11_times_ok 19 rfl) (Or.inl rfl)
    · replace h := g_neg hb476 h
      obtain ⟨hc, h⟩ := g_if h
      refine m_blk C0 (pX11_ok rfl) kX11_times_ok 10 8 (37, [some (.inr (.inr (0, 0))), some (.inl a1), some (.inl a2)], [.inl (s474 16 a1.toNat a2.toNat)], s474) (Ps := [0 ≤ a1 ∧ a1 < 48, 0 ≤ a2 ∧ a2 < 48]) rfl (And.intro hc.1 (And.intro hc.2 trivial)) ?_
      cases h
      exact m_iret C0 hFin (k_at kX11_times_ok 19 rfl) (Or.inl rfl)
set_option maxRecDepth 100000 in
set_option maxHeartbeats 4000000 in
theorem t_X11_of {e : mEv} (hG : mGeo (mw0 e) lw_kept) (l : Launch) (N : Nat) {a1 : Int} {a2 : Int} {σ σ' : mS} {v : Int} (h : f_X11_of N a1 a2 σ = some (v, σ')) : mMet l (mw0 e) lw_kept 1 yX11_of cX11_of 3 (some .int) [.inr (.inr (0, 0)), .inl a1, .inl a2] σ (some (.inl v)) σ' := by
  refine mMet_intro (plainFor_of_name (by decide)) hG (Nat.le_of_ble_eq_true rfl) (fun f hl hR C0 hFin => ?_)
  subst hl
  have hFr := mFr_of hR hFin
  unfold f_X11_of at h
  show mWW f (mw0 e) sc0 3 (0, [some (.inr (.inr (0, 0))), some (.inl a1), some (.inl a2)], [], σ)
  refine m_blk C0 (pX11_ok rfl) kX11_of_ok 0 3 (5, [some (.inr (.inr (0, 0))), some (.inl a1), some (.inl a2)], [.inl a1, .inr (.inr (5, 0))], σ) (Ps := []) rfl trivial ?_
  obtain ⟨⟨v481, s480⟩, hq485, h⟩ := g_bind h
  refine c_V (rest := []) C0 hFr (t_X1_has hG f.2.1 N hq485) lk_X11_118 (k_at kX11_of_ok 3 rfl) rfl rfl rfl rfl ⟨_, _, rfl⟩ (by decide) (by decide) (Nat.le_of_ble_eq_true rfl) ?_
  refine b_ne C0 kX11_of_ok 4 (off := 5) (tgt := 13) rfl (by decide) (fun hb484 => ?_) (fun hb484 => ?_)
  · replace h := g_neg hb484 h
    refine m_blk C0 (pX11_ok rfl) kX11_of_ok 7 1 (14, [some (.inr (.inr (0, 0))), some (.inl a1), some (.inl a2)], [.inl a2], s480) (Ps := []) rfl trivial ?_
    refine b_tab C0 kX11_of_ok 8 (tgt := 92) rfl (fun n hn1 hn2 => ?_) (by decide) (fun hn => ?_)
    · rcases (show n = 0 ∨ n = 1 ∨ n = 2 ∨ n = 3 by omega) with rfl | rfl | rfl | rfl
      · have hb483 : a2 = 0 := hn1
        replace h := g_pos hb483 h
        refine ⟨_, 44, rfl, by decide, ?_⟩
        obtain ⟨hc, h⟩ := g_if h
        refine m_blk C0 (pX11_ok rfl) kX11_of_ok 9 5 (53, [some (.inr (.inr (0, 0))), some (.inl a1), some (.inl a2)], [.inl (s480 17 0 a1.toNat)], s480) (Ps := [0 ≤ a1 ∧ a1 < 48]) rfl (And.intro hc trivial) ?_
        cases h
        exact m_iret C0 hFin (k_at kX11_of_ok 14 rfl) (Or.inl rfl)
      · have hb483 : a2 = 1 := hn1
        replace h := g_neg (show ¬ a2 = 0 by omega) h
        replace h := g_pos hb483 h
        refine ⟨_, 54, rfl, by decide, ?_⟩
        obtain ⟨hc, h⟩ := g_if h
        refine m_blk C0 (pX11_ok rfl) kX11_of_ok 15 5 (63, [some (.inr (.inr (0, 0))), some (.inl a1), some (.inl a2)], [.inl (s480 18 0 a1.toNat)], s480) (Ps := [0 ≤ a1 ∧ a1 < 48]) rfl (And.intro hc trivial) ?_
        cases h
        exact m_iret C0 hFin (k_at kX11_of_ok 20 rfl) (Or.inl rfl)
      · have hb483 : a2 = 2 := hn1
        replace h := g_neg (show ¬ a2 = 0 by omega) h
        replace h := g_neg (show ¬ a2 = 1 by omega) h
        replace h := g_pos hb483 h
        refine ⟨_, 64, rfl, by decide, ?_⟩
        obtain ⟨hc, h⟩ := g_if h
        refine m_blk C0 (pX11_ok rfl) kX11_of_ok 21 5 (73, [some (.inr (.inr (0, 0))), some (.inl a1), some (.inl a2)], [.inl (s480 19 0 a1.toNat)], s480) (Ps := [0 ≤ a1 ∧ a1 < 48]) rfl (And.intro hc trivial) ?_
        cases h
        exact m_iret C0 hFin (k_at kX11_of_ok 26 rfl) (Or.inl rfl)
      · have hb483 : a2 = 3 := hn1
        replace h := g_neg (show ¬ a2 = 0 by omega) h
        replace h := g_neg (show ¬ a2 = 1 by omega) h
        replace h := g_neg (show ¬ a2 = 2 by omega) h
        replace h := g_pos hb483 h
        refine ⟨_, 74, rfl, by decide, ?_⟩
        obtain ⟨hc, h⟩ := g_if h
        refine m_blk C0 (pX11_ok rfl) kX11_of_ok 27 5 (83, [some (.inr (.inr (0, 0))), some (.inl a1), some (.inl a2)], [.inl (s480 22 0 a1.toNat)], s480) (Ps := [0 ≤ a1 ∧ a1 < 48]) rfl (And.intro hc trivial) ?_
        refine b_eq C0 kX11_of_ok 32 (off := 7) (tgt := 90) rfl (by decide) (fun hb482 => ?_) (fun hb482 => ?_)
        · replace h := g_pos hb482 h
          refine m_blk C0 (pX11_ok rfl) kX11_of_ok 35 1 (91, [some (.inr (.inr (0, 0))), some (.inl a1), some (.inl a2)], [.inl 0], s480) (Ps := []) rfl trivial ?_
          cases h
          exact m_iret C0 hFin (k_at kX11_of_ok 36 rfl) (Or.inl rfl)
        · replace h := g_neg hb482 h
          refine m_blk C0 (pX11_ok rfl) kX11_of_ok 33 2 (91, [some (.inr (.inr (0, 0))), some (.inl a1), some (.inl a2)], [.inl 1], s480) (Ps := []) rfl trivial ?_
          cases h
          exact m_iret C0 hFin (k_at kX11_of_ok 36 rfl) (Or.inl rfl)
    · have hn0 := hn
      replace h := g_neg (show ¬ a2 = 0 by omega) h
      replace h := g_neg (show ¬ a2 = 1 by omega) h
      replace h := g_neg (show ¬ a2 = 2 by omega) h
      replace h := g_neg (show ¬ a2 = 3 by omega) h
      refine m_blk C0 (pX11_ok rfl) kX11_of_ok 37 1 (93, [some (.inr (.inr (0, 0))), some (.inl a1), some (.inl a2)], [.inl (-1)], s480) (Ps := []) rfl trivial ?_
      cases h
      exact m_iret C0 hFin (k_at kX11_of_ok 38 rfl) (Or.inl rfl)
  · replace h := g_pos hb484 h
    refine m_blk C0 (pX11_ok rfl) kX11_of_ok 5 1 (12, [some (.inr (.inr (0, 0))), some (.inl a1), some (.inl a2)], [.inl (-1)], s480) (Ps := []) rfl trivial ?_
    cases h
    exact m_iret C0 hFin (k_at kX11_of_ok 6 rfl) (Or.inl rfl)
set_option maxRecDepth 100000 in
set_option maxHeartbeats 4000000 in
theorem t_X9_has {e : mEv} (hG : mGeo (mw0 e) lw_kept) (l : Launch) (N : Nat) {a1 : Int} {σ σ' : mS} {v : Int} (h : f_X9_has N a1 σ = some (v, σ')) : mMet l (mw0 e) lw_kept 0 yX9_has cX9_has 2 (some .boolean) [.inr (.inr (26, 0)), .inl a1] σ (some (.inl v)) σ' := by
  refine mMet_intro (plainFor_of_name (by decide)) hG (Nat.le_of_ble_eq_true rfl) (fun f hl hR C0 hFin => ?_)
  subst hl
  have hFr := mFr_of hR hFin
  unfold f_X9_has at h
  show mWW f (mw0 e) sc0 2 (0, [some (.inr (.inr (26, 0))), some (.inl a1)], [], σ)
  refine m_blk C0 (pX9_ok rfl) kX9_has_ok 0 1 (1, [some (.inr (.inr (26, 0))), some (.inl a1)], [.inl a1], σ) (Ps := []) rfl trivial ?_
  refine b_lt C0 kX9_has_ok 1 (off := 15) (tgt := 16) rfl (by decide) (fun hb487 => ?_) (fun hb487 => ?_)
  · replace h := g_pos hb487 h
    refine m_blk C0 (pX9_ok rfl) kX9_has_ok 8 1 (17, [some (.inr (.inr (26, 0))), some (.inl a1)], [.inl 0], σ) (Ps := []) rfl trivial ?_
    cases h
    exact m_iret C0 hFin (k_at kX9_has_ok 9 rfl) (Or.inr ⟨rfl, by decide⟩)
  · replace h := g_neg hb487 h
    refine m_blk C0 (pX9_ok rfl) kX9_has_ok 2 3 (9, [some (.inr (.inr (26, 0))), some (.inl a1)], [.inl (σ 26 0 0), .inl a1], σ) (Ps := []) rfl trivial ?_
    refine b_ige C0 kX9_has_ok 5 (off := 7) (tgt := 16) rfl (by decide) (fun hb486 => ?_) (fun hb486 => ?_)
    · replace h := g_pos hb486 h
      refine m_blk C0 (pX9_ok rfl) kX9_has_ok 8 1 (17, [some (.inr (.inr (26, 0))), some (.inl a1)], [.inl 0], σ) (Ps := []) rfl trivial ?_
      cases h
      exact m_iret C0 hFin (k_at kX9_has_ok 9 rfl) (Or.inr ⟨rfl, by decide⟩)
    · replace h := g_neg hb486 h
      refine m_blk C0 (pX9_ok rfl) kX9_has_ok 6 2 (17, [some (.inr (.inr (26, 0))), some (.inl a1)], [.inl 1], σ) (Ps := []) rfl trivial ?_
      cases h
      exact m_iret C0 hFin (k_at kX9_has_ok 9 rfl) (Or.inr ⟨rfl, by decide⟩)
set_option maxRecDepth 100000 in
set_option maxHeartbeats 4000000 in
theorem t_X11_sign {e : mEv} (hG : mGeo (mw0 e) lw_kept) (l : Launch) (N : Nat) {a1 : Int} {a2 : Int} {σ σ' : mS} {v : Int} (h : f_X11_sign N a1 a2 σ = some (v, σ')) : mMet l (mw0 e) lw_kept 1 yX11_sign cX11_sign 3 (some .int) [.inr (.inr (0, 0)), .inl a1, .inl a2] σ (some (.inl v)) σ' := by
  refine mMet_intro (plainFor_of_name (by decide)) hG (Nat.le_of_ble_eq_true rfl) (fun f hl hR C0 hFin => ?_)
  subst hl
  have hFr := mFr_of hR hFin
  unfold f_X11_sign at h
  show mWW f (mw0 e) sc0 3 (0, [some (.inr (.inr (0, 0))), some (.inl a1), some (.inl a2)], [], σ)
  refine m_blk C0 (pX11_ok rfl) kX11_sign_ok 0 3 (5, [some (.inr (.inr (0, 0))), some (.inl a1), some (.inl a2)], [.inl a1, .inr (.inr (26, 0))], σ) (Ps := []) rfl trivial ?_
  obtain ⟨⟨v489, s488⟩, hq495, h⟩ := g_bind h
  refine c_V (rest := []) C0 hFr (t_X9_has hG f.2.1 N hq495) lk_X11_142 (k_at kX11_sign_ok 3 rfl) rfl rfl rfl rfl ⟨_, _, rfl⟩ (by decide) (by decide) (Nat.le_of_ble_eq_true rfl) ?_
  refine b_eq C0 kX11_sign_ok 4 (off := 28) (tgt := 36) rfl (by decide) (fun hb494 => ?_) (fun hb494 => ?_)
  · replace h := g_pos hb494 h
    refine m_blk C0 (pX11_ok rfl) kX11_sign_ok 18 1 (37, [some (.inr (.inr (0, 0))), some (.inl a1), some (.inl a2)], [.inl 0], s488) (Ps := []) rfl trivial ?_
    cases h
    exact m_iret C0 hFin (k_at kX11_sign_ok 19 rfl) (Or.inl rfl)
  · replace h := g_neg hb494 h
    refine m_blk C0 (pX11_ok rfl) kX11_sign_ok 5 3 (16, [some (.inr (.inr (0, 0))), some (.inl a1), some (.inl a2)], [.inl a2, .inr (.inr (5, 0))], s488) (Ps := []) rfl trivial ?_
    obtain ⟨⟨v491, s490⟩, hq493, h⟩ := g_bind h
    refine c_V (rest := []) C0 hFr (t_X1_has hG f.2.1 N hq493) lk_X11_118 (k_at kX11_sign_ok 8 rfl) rfl rfl rfl rfl ⟨_, _, rfl⟩ (by decide) (by decide) (Nat.le_of_ble_eq_true rfl) ?_
    refine b_eq C0 kX11_sign_ok 9 (off := 17) (tgt := 36) rfl (by decide) (fun hb492 => ?_) (fun hb492 => ?_)
    · replace h := g_pos hb492 h
      refine m_blk C0 (pX11_ok rfl) kX11_sign_ok 18 1 (37, [some (.inr (.inr (0, 0))), some (.inl a1), some (.inl a2)], [.inl 0], s490) (Ps := []) rfl trivial ?_
      cases h
      exact m_iret C0 hFin (k_at kX11_sign_ok 19 rfl) (Or.inl rfl)
    · replace h := g_neg hb492 h
      obtain ⟨hc, h⟩ := g_if h
      refine m_blk C0 (pX11_ok rfl) kX11_sign_ok 10 8 (37, [some (.inr (.inr (0, 0))), some (.inl a1), some (.inl a2)], [.inl (s490 28 a1.toNat a2.toNat)], s490) (Ps := [0 ≤ a1 ∧ a1 < 16, 0 ≤ a2 ∧ a2 < 48]) rfl (And.intro hc.1 (And.intro hc.2 trivial)) ?_
      cases h
      exact m_iret C0 hFin (k_at kX11_sign_ok 19 rfl) (Or.inl rfl)
set_option maxRecDepth 100000 in
set_option maxHeartbeats 4000000 in
theorem t_X6_has {e : mEv} (hG : mGeo (mw0 e) lw_kept) (l : Launch) (N : Nat) {a1 : Int} {σ σ' : mS} {v : Int} (h : f_X6_has N a1 σ = some (v, σ')) : mMet l (mw0 e) lw_kept 0 yX6_has cX6_has 2 (some .boolean) [.inr (.inr (31, 0)), .inl a1] σ (some (.inl v)) σ' := by
  refine mMet_intro (plainFor_of_name (by decide)) hG (Nat.le_of_ble_eq_true rfl) (fun f hl hR C0 hFin => ?_)
  subst hl
  have hFr := mFr_of hR hFin
  unfold f_X6_has at h
  show mWW f (mw0 e) sc0 2 (0, [some (.inr (.inr (31, 0))), some (.inl a1)], [], σ)
  refine m_blk C0 (pX6_ok rfl) kX6_has_ok 0 1 (1, [some (.inr (.inr (31, 0))), some (.inl a1)], [.inl a1], σ) (Ps := []) rfl trivial ?_
  refine b_lt C0 kX6_has_ok 1 (off := 13) (tgt := 14) rfl (by decide) (fun hb497 => ?_) (fun hb497 => ?_)
  · replace h := g_pos hb497 h
    refine m_blk C0 (pX6_ok rfl) kX6_has_ok 7 1 (15, [some (.inr (.inr (31, 0))), some (.inl a1)], [.inl 0], σ) (Ps := []) rfl trivial ?_
    cases h
    exact m_iret C0 hFin (k_at kX6_has_ok 8 rfl) (Or.inr ⟨rfl, by decide⟩)
  · replace h := g_neg hb497 h
    refine m_blk C0 (pX6_ok rfl) kX6_has_ok 2 2 (7, [some (.inr (.inr (31, 0))), some (.inl a1)], [.inl 8, .inl a1], σ) (Ps := []) rfl trivial ?_
    refine b_ige C0 kX6_has_ok 4 (off := 7) (tgt := 14) rfl (by decide) (fun hb496 => ?_) (fun hb496 => ?_)
    · replace h := g_pos hb496 h
      refine m_blk C0 (pX6_ok rfl) kX6_has_ok 7 1 (15, [some (.inr (.inr (31, 0))), some (.inl a1)], [.inl 0], σ) (Ps := []) rfl trivial ?_
      cases h
      exact m_iret C0 hFin (k_at kX6_has_ok 8 rfl) (Or.inr ⟨rfl, by decide⟩)
    · replace h := g_neg hb496 h
      refine m_blk C0 (pX6_ok rfl) kX6_has_ok 5 2 (15, [some (.inr (.inr (31, 0))), some (.inl a1)], [.inl 1], σ) (Ps := []) rfl trivial ?_
      cases h
      exact m_iret C0 hFin (k_at kX6_has_ok 8 rfl) (Or.inr ⟨rfl, by decide⟩)
