set_option maxRecDepth 100000 in
set_option maxHeartbeats 4000000 in
theorem t_X0_addProductOfNothing {e : mEv} (hG : mGeo (mw0 e) lw_kept) (l : Launch) (N : Nat) {σ σ' : mS} (h : f_X0_addProductOfNothing N σ = some σ') : mMet l (mw0 e) lw_kept 4 yX0_addProductOfNothing cX0_addProductOfNothing 2 none [.inr (.inr (42, 0))] σ none σ' := by
  refine mMet_intro (plainFor_of_name (by decide)) hG (Nat.le_of_ble_eq_true rfl) (fun f hl hR C0 hFin => ?_)
  subst hl
  have hFr := mFr_of hR hFin
  unfold f_X0_addProductOfNothing at h
  show mWW f (mw0 e) sc0 2 (0, [some (.inr (.inr (42, 0))), none], [], σ)
  refine m_blk C0 (pX0_ok rfl) kX0_addProductOfNothing_ok 0 6 (8, [some (.inr (.inr (42, 0))), some (.inr (.inr (47, 0)))], [.inr (.inr (47, 0))], σ) (Ps := [0 ≤ (0 : Int) ∧ (0 : Int) < 7]) rfl (And.intro (by decide) trivial) ?_
  obtain ⟨s257, hq314, h⟩ := g_bind h
  refine c_V (rest := []) C0 hFr (t_X3_empty hG f.2.1 N hq314) lk_X0_47 (k_at kX0_addProductOfNothing_ok 6 rfl) rfl rfl rfl rfl ⟨_, _, rfl⟩ (by decide) (by decide) (Nat.le_of_ble_eq_true rfl) ?_
  obtain ⟨hc, h⟩ := g_if h
  refine m_blk C0 (pX0_ok rfl) kX0_addProductOfNothing_ok 7 7 (20, [some (.inr (.inr (42, 0))), some (.inr (.inr (47, 0)))], [], (mup s257 51 (64 * 0 + 0) 0 1)) (Ps := [0 ≤ (0 : Int) ∧ (0 : Int) < ((gmo 0 : Nat) : Int), 0 ≤ (0 : Int) ∧ (0 : Int) < ((gwd ((64 * 0 + 0) / 64) : Nat) : Int)]) rfl (And.intro hc.1 (And.intro hc.2 trivial)) ?_
  refine m_blk C0 (pX0_ok rfl) kX0_addProductOfNothing_ok 14 5 (28, [some (.inr (.inr (42, 0))), some (.inr (.inr (47, 0)))], [], (mup (mup s257 51 (64 * 0 + 0) 0 1) 52 0 0 6)) (Ps := [0 ≤ (0 : Int) ∧ (0 : Int) < ((gmo 0 : Nat) : Int)]) rfl (And.intro hc.1 trivial) ?_
  refine m_blk C0 (pX0_ok rfl) kX0_addProductOfNothing_ok 19 6 (36, [some (.inr (.inr (42, 0))), some (.inr (.inr (47, 0)))], [.inl 0, .inr (.inr (51, 64 * 0 + 0)), .inr (.inr (47, 0))], (mup (mup s257 51 (64 * 0 + 0) 0 1) 52 0 0 6)) (Ps := [0 ≤ (0 : Int) ∧ (0 : Int) < ((gmo 0 : Nat) : Int)]) rfl (And.intro hc.1 trivial) ?_
  obtain ⟨⟨v312, s311⟩, hq313, h⟩ := g_bind h
  refine c_V (rest := []) C0 hFr (t_X3_keepIfFree_r51 hG f.2.1 N hq313) lk_X0_65 (k_at kX0_addProductOfNothing_ok 25 rfl) rfl rfl rfl rfl ⟨_, _, rfl⟩ (by decide) (by decide) (Nat.le_of_ble_eq_true rfl) ?_
  refine m_blk C0 (pX0_ok rfl) kX0_addProductOfNothing_ok 26 4 (45, [some (.inr (.inr (42, 0))), some (.inr (.inr (47, 0)))], [], (mup s311 47 0 3 1)) (Ps := []) rfl trivial ?_
  cases h
  exact m_vret C0 hFin (k_at kX0_addProductOfNothing_ok 30 rfl)
set_option maxRecDepth 100000 in
set_option maxHeartbeats 4000000 in
theorem t_X3_isFull {e : mEv} (hG : mGeo (mw0 e) lw_kept) (l : Launch) (N : Nat) {q0 : Nat} {σ σ' : mS} {v : Int} (h : f_X3_isFull N q0 σ = some (v, σ')) : mMet l (mw0 e) lw_kept 0 yX3_isFull cX3_isFull 1 (some .boolean) [.inr (.inr (47, q0))] σ (some (.inl v)) σ' := by
  refine mMet_intro (plainFor_of_name (by decide)) hG (Nat.le_of_ble_eq_true rfl) (fun f hl hR C0 hFin => ?_)
  subst hl
  have hFr := mFr_of hR hFin
  unfold f_X3_isFull at h
  show mWW f (mw0 e) sc0 1 (0, [some (.inr (.inr (47, q0)))], [], σ)
  refine m_blk C0 (pX3_ok rfl) kX3_isFull_ok 0 4 (8, [some (.inr (.inr (47, q0)))], [.inl (σ 47 q0 2), .inl (σ 47 q0 3)], σ) (Ps := []) rfl trivial ?_
  refine b_ilt C0 kX3_isFull_ok 4 (off := 7) (tgt := 15) rfl (by decide) (fun hb317 => ?_) (fun hb317 => ?_)
  · replace h := g_pos hb317 h
    refine m_blk C0 (pX3_ok rfl) kX3_isFull_ok 7 1 (16, [some (.inr (.inr (47, q0)))], [.inl 0], σ) (Ps := []) rfl trivial ?_
    cases h
    exact m_iret C0 hFin (k_at kX3_isFull_ok 8 rfl) (Or.inr ⟨rfl, by decide⟩)
  · replace h := g_neg hb317 h
    refine m_blk C0 (pX3_ok rfl) kX3_isFull_ok 5 2 (16, [some (.inr (.inr (47, q0)))], [.inl 1], σ) (Ps := []) rfl trivial ?_
    cases h
    exact m_iret C0 hFin (k_at kX3_isFull_ok 8 rfl) (Or.inr ⟨rfl, by decide⟩)
set_option maxRecDepth 100000 in
set_option maxHeartbeats 4000000 in
theorem p_J7_fill_53178_r51_5 {e : mEv} (hG : mGeo (mw0 e) lw_kept) (N : Nat) {f : mFx} (C0 : mCx f (mw0 e) sc0 cJ7_fill_53178 4 RJ7 lw_kept) (hFr : mFr f 0) : ∀ (n : Nat) (y0 : Nat) (x1 : Int) (x2 : Int) (x3 : Int) (σ : mS) (σ' : mS), L_J7_fill_53178_r51_5 N n y0 x1 x2 x3 σ = some σ' → mWW f (mw0 e) sc0 4 (20, [none, none, none, none], [], σ') → mWW f (mw0 e) sc0 4 (5, [some (.inr (.inr (51, y0))), some (.inl x1), some (.inl x2), some (.inl x3)], [], σ) := by
  intro n
  induction n with
  | zero =>
    intro y0 x1 x2 x3 σ σ' h hK
    cases h
  | succ n IH =>
    intro y0 x1 x2 x3 σ σ' h hK
    rw [L_J7_fill_53178_r51_5_s] at h
    refine m_blk C0 (pJ7_ok rfl) kJ7_fill_53178_ok 5 2 (7, [some (.inr (.inr (51, y0))), some (.inl x1), some (.inl x2), some (.inl x3)], [.inl x3, .inl x2], σ) (Ps := []) rfl trivial ?_
    refine b_ige C0 kJ7_fill_53178_ok 7 (off := 13) (tgt := 20) rfl (by decide) (fun hb320 => ?_) (fun hb320 => ?_)
    · replace h := g_pos hb320 h
      cases h
      refine m_mask [false, false, false, false] (ls' := [none, none, none, none]) rfl ?_
      exact hK
    · replace h := g_neg hb320 h
      obtain ⟨hc, h⟩ := g_if h
      refine m_blk C0 (pJ7_ok rfl) kJ7_fill_53178_ok 8 4 (14, [some (.inr (.inr (51, y0))), some (.inl x1), some (.inl x2), some (.inl x3)], [], (mup σ 51 y0 x2.toNat x1)) (Ps := [0 ≤ x2 ∧ x2 < ((gwd (y0 / 64) : Nat) : Int)]) rfl (And.intro hc trivial) ?_
      refine m_blk C0 (pJ7_ok rfl) kJ7_fill_53178_ok 12 2 (5, [some (.inr (.inr (51, y0))), some (.inl x1), some (.inl (mw (x2 + 1))), some (.inl x3)], [], (mup σ 51 y0 x2.toNat x1)) (Ps := []) rfl trivial ?_
      refine m_mask [true, true, true, true] (ls' := [some (.inr (.inr (51, y0))), some (.inl x1), some (.inl (mw (x2 + 1))), some (.inl x3)]) rfl ?_
      exact IH _ _ _ _ _ _ h hK
set_option maxRecDepth 100000 in
set_option maxHeartbeats 4000000 in
theorem t_J7_fill_53178_r51 {e : mEv} (hG : mGeo (mw0 e) lw_kept) (l : Launch) (N : Nat) {q0 : Nat} {a1 : Int} {σ σ' : mS} (h : f_J7_fill_53178_r51 N q0 a1 σ = some σ') : mMet l (mw0 e) lw_kept 0 yJ7_fill_53178 cJ7_fill_53178 4 none [.inr (.inr (51, q0)), .inl a1] σ none σ' := by
  refine mMet_intro (by decide +kernel) hG (Nat.le_of_ble_eq_true rfl) (fun f hl hR C0 hFin => ?_)
  subst hl
  have hFr := mFr_of hR hFin
  unfold f_J7_fill_53178_r51 at h
  show mWW f (mw0 e) sc0 4 (0, [some (.inr (.inr (51, q0))), some (.inl a1), none, none], [], σ)
  refine m_blk C0 (pJ7_ok rfl) kJ7_fill_53178_ok 0 5 (5, [some (.inr (.inr (51, q0))), some (.inl a1), some (.inl 0), some (.inl ((gwd (q0 / 64) : Nat) : Int))], [], σ) (Ps := []) rfl trivial ?_
  obtain ⟨s321, hq322, h⟩ := g_bind h
  refine m_mask [true, true, true, true] (ls' := [some (.inr (.inr (51, q0))), some (.inl a1), some (.inl 0), some (.inl ((gwd (q0 / 64) : Nat) : Int))]) rfl ?_
  refine p_J7_fill_53178_r51_5 hG N C0 hFr N _ _ _ _ _ _ hq322 ?_
  cases h
  exact m_vret C0 hFin (k_at kJ7_fill_53178_ok 14 rfl)
set_option maxRecDepth 100000 in
set_option maxHeartbeats 4000000 in
theorem t_X7_firstOf {e : mEv} (hG : mGeo (mw0 e) lw_kept) (l : Launch) (N : Nat) {a0 : Int} {σ σ' : mS} {v : Int} (h : f_X7_firstOf N a0 σ = some (v, σ')) : mMet l (mw0 e) lw_kept 0 yX7_firstOf cX7_firstOf 1 (some .int) [.inl a0] σ (some (.inl v)) σ' := by
  refine mMet_intro (plainFor_of_name (by decide)) hG (Nat.le_of_ble_eq_true rfl) (fun f hl hR C0 hFin => ?_)
  subst hl
  have hFr := mFr_of hR hFin
  unfold f_X7_firstOf at h
  show mWW f (mw0 e) sc0 1 (0, [some (.inl a0)], [], σ)
  refine m_blk C0 (pX7_ok rfl) kX7_firstOf_ok 0 11 (12, [some (.inl a0)], [.inl (o_div (mw ((mw (a0 * (mw (a0 + 1)))) * (mw (a0 + 2)))) 6)], σ) (Ps := [¬ (6 : Int) = 0]) rfl (And.intro (by decide) trivial) ?_
  cases h
  exact m_iret C0 hFin (k_at kX7_firstOf_ok 11 rfl) (Or.inl rfl)
set_option maxRecDepth 100000 in
set_option maxHeartbeats 4000000 in
theorem t_X7_indexOf {e : mEv} (hG : mGeo (mw0 e) lw_kept) (l : Launch) (N : Nat) {a0 : Int} {a1 : Int} {a2 : Int} {σ σ' : mS} {v : Int} (h : f_X7_indexOf N a0 a1 a2 σ = some (v, σ')) : mMet l (mw0 e) lw_kept 0 yX7_indexOf cX7_indexOf 5 (some .int) [.inl a0, .inl a1, .inl a2] σ (some (.inl v)) σ' := by
  refine mMet_intro (plainFor_of_name (by decide)) hG (Nat.le_of_ble_eq_true rfl) (fun f hl hR C0 hFin => ?_)
  subst hl
  have hFr := mFr_of hR hFin
  unfold f_X7_indexOf at h
  show mWW f (mw0 e) sc0 5 (0, [some (.inl a0), some (.inl a1), some (.inl a2), none, none], [], σ)
  refine m_blk C0 (pX7_ok rfl) kX7_indexOf_ok 0 16 (20, [some (.inl a0), some (.inl a1), some (.inl a2), some (.inl (mw (a1 + a2))), some (.inl (mw (a0 + (mw (a1 + a2)))))], [.inl (mw ((mw (a0 + (mw (a1 + a2)))) + 2)), .inl (mw ((mw (a0 + (mw (a1 + a2)))) * (mw ((mw (a0 + (mw (a1 + a2)))) + 1))))], σ) (Ps := []) rfl trivial ?_
  refine m_blk C0 (pX7_ok rfl) kX7_indexOf_ok 16 13 (34, [some (.inl a0), some (.inl a1), some (.inl a2), some (.inl (mw (a1 + a2))), some (.inl (mw (a0 + (mw (a1 + a2)))))], [.inl (mw ((mw ((o_div (mw ((mw ((mw (a0 + (mw (a1 + a2)))) * (mw ((mw (a0 + (mw (a1 + a2)))) + 1)))) * (mw ((mw (a0 + (mw (a1 + a2)))) + 2)))) 6) + (o_div (mw ((mw (a1 + a2)) * (mw ((mw (a1 + a2)) + 1)))) 2))) + a2))], σ) (Ps := [¬ (6 : Int) = 0, ¬ (2 : Int) = 0]) rfl (And.intro (by decide) (And.intro (by decide) trivial)) ?_
  cases h
  exact m_iret C0 hFin (k_at kX7_indexOf_ok 29 rfl) (Or.inl rfl)
set_option maxRecDepth 100000 in
set_option maxHeartbeats 4000000 in
theorem t_X7_indexOfProduct {e : mEv} (hG : mGeo (mw0 e) lw_kept) (l : Launch) (N : Nat) {a1 : Int} {a2 : Int} {σ σ' : mS} {v : Int} (h : f_X7_indexOfProduct N a1 a2 σ = some (v, σ')) : mMet l (mw0 e) lw_kept 1 yX7_indexOfProduct cX7_indexOfProduct 3 (some .int) [.inr (.inr (37, 0)), .inl a1, .inl a2] σ (some (.inl v)) σ' := by
  refine mMet_intro (plainFor_of_name (by decide)) hG (Nat.le_of_ble_eq_true rfl) (fun f hl hR C0 hFin => ?_)
  subst hl
  have hFr := mFr_of hR hFin
  unfold f_X7_indexOfProduct at h
  show mWW f (mw0 e) sc0 3 (0, [some (.inr (.inr (37, 0))), some (.inl a1), some (.inl a2)], [], σ)
  obtain ⟨hc, h⟩ := g_if h
  refine m_blk C0 (pX7_ok rfl) kX7_indexOfProduct_ok 0 16 (22, [some (.inr (.inr (37, 0))), some (.inl a1), some (.inl a2)], [.inl 1, .inr (.inr (38, 0)), .inl (mw ((σ 39 0 a1.toNat) + (σ 39 0 a2.toNat)))], σ) (Ps := [0 ≤ (0 : Int) ∧ (0 : Int) < 3, 0 ≤ a1 ∧ a1 < 165, 0 ≤ (0 : Int) ∧ (0 : Int) < 3, 0 ≤ a2 ∧ a2 < 165]) rfl (And.intro (by decide) (And.intro hc.1 (And.intro (by decide) (And.intro hc.2 trivial)))) ?_
  refine m_blk C0 (pX7_ok rfl) kX7_indexOfProduct_ok 16 16 (42, [some (.inr (.inr (37, 0))), some (.inl a1), some (.inl a2)], [.inl (σ 39 2 a1.toNat), .inl (mw ((σ 39 1 a1.toNat) + (σ 39 1 a2.toNat))), .inl (mw ((σ 39 0 a1.toNat) + (σ 39 0 a2.toNat)))], σ) (Ps := [0 ≤ (1 : Int) ∧ (1 : Int) < 3, 0 ≤ a1 ∧ a1 < 165, 0 ≤ (1 : Int) ∧ (1 : Int) < 3, 0 ≤ a2 ∧ a2 < 165, 0 ≤ (2 : Int) ∧ (2 : Int) < 3, 0 ≤ a1 ∧ a1 < 165]) rfl (And.intro (by decide) (And.intro hc.1 (And.intro (by decide) (And.intro hc.2 (And.intro (by decide) (And.intro hc.1 trivial)))))) ?_
  refine m_blk C0 (pX7_ok rfl) kX7_indexOfProduct_ok 32 7 (51, [some (.inr (.inr (37, 0))), some (.inl a1), some (.inl a2)], [.inl (mw ((σ 39 2 a1.toNat) + (σ 39 2 a2.toNat))), .inl (mw ((σ 39 1 a1.toNat) + (σ 39 1 a2.toNat))), .inl (mw ((σ 39 0 a1.toNat) + (σ 39 0 a2.toNat)))], σ) (Ps := [0 ≤ (2 : Int) ∧ (2 : Int) < 3, 0 ≤ a2 ∧ a2 < 165]) rfl (And.intro (by decide) (And.intro hc.2 trivial)) ?_
  obtain ⟨⟨v331, s330⟩, hq332, h⟩ := g_bind h
  refine c_S (rest := []) C0 hFr (t_X7_indexOf hG f.2.1 N hq332) lk_X7_23 (k_at kX7_indexOfProduct_ok 39 rfl) rfl rfl rfl (by decide) (by decide) (Nat.le_of_ble_eq_true rfl) ?_
  cases h
  exact m_iret C0 hFin (k_at kX7_indexOfProduct_ok 40 rfl) (Or.inl rfl)
set_option maxRecDepth 100000 in
set_option maxHeartbeats 4000000 in
theorem p_X0_multiplyInto_r51_63 {e : mEv} (hG : mGeo (mw0 e) lw_kept) (N : Nat) {f : mFx} (C0 : mCx f (mw0 e) sc0 cX0_multiplyInto 13 RX0 lw_kept) (hFr : mFr f 2) : ∀ (n : Nat) (y0 : Nat) (y1 : Nat) (x2 : Int) (y3 : Nat) (x4 : Int) (x6 : Int) (x7 : Int) (x8 : Int) (x9 : Int) (x10 : Int) (x11 : Int) (σ : mS) (σ' : mS), L_X0_multiplyInto_r51_63 N n y0 y1 x2 y3 x4 x6 x7 x8 x9 x10 x11 σ = some σ' → mWW f (mw0 e) sc0 13 (141, [some (.inr (.inr (51, y0))), some (.inr (.inr (47, y1))), some (.inl x2), some (.inr (.inr (47, y3))), some (.inl x4), some (.inr (.inr (37, 0))), some (.inl x6), some (.inl x7), some (.inl x8), some (.inl x9), none, none, none], [], σ') → mWW f (mw0 e) sc0 13 (63, [some (.inr (.inr (51, y0))), some (.inr (.inr (47, y1))), some (.inl x2), some (.inr (.inr (47, y3))), some (.inl x4), some (.inr (.inr (37, 0))), some (.inl x6), some (.inl x7), some (.inl x8), some (.inl x9), some (.inl x10), some (.inl x11), none], [], σ) := by
  intro n
  induction n with
  | zero =>
    intro y0 y1 x2 y3 x4 x6 x7 x8 x9 x10 x11 σ σ' h hK
    cases h
  | succ n IH =>
    intro y0 y1 x2 y3 x4 x6 x7 x8 x9 x10 x11 σ σ' h hK
    rw [L_X0_multiplyInto_r51_63_s] at h
    refine m_blk C0 (pX0_ok rfl) kX0_multiplyInto_ok 33 1 (65, [some (.inr (.inr (51, y0))), some (.inr (.inr (47, y1))), some (.inl x2), some (.inr (.inr (47, y3))), some (.inl x4), some (.inr (.inr (37, 0))), some (.inl x6), some (.inl x7), some (.inl x8), some (.inl x9), some (.inl x10), some (.inl x11), none], [.inl x10], σ) (Ps := []) rfl trivial ?_
    refine b_eq C0 kX0_multiplyInto_ok 34 (off := 76) (tgt := 141) rfl (by decide) (fun hb339 => ?_) (fun hb339 => ?_)
    · replace h := g_pos hb339 h
      cases h
      refine m_mask [true, true, true, true, true, true, true, true, true, true, false, false, false] (ls' := [some (.inr (.inr (51, y0))), some (.inr (.inr (47, y1))), some (.inl x2), some (.inr (.inr (47, y3))), some (.inl x4), some (.inr (.inr (37, 0))), some (.inl x6), some (.inl x7), some (.inl x8), some (.inl x9), none, none, none]) rfl ?_
      exact hK
    · replace h := g_neg hb339 h
      refine m_blk C0 (pX0_ok rfl) kX0_multiplyInto_ok 35 3 (74, [some (.inr (.inr (51, y0))), some (.inr (.inr (47, y1))), some (.inl x2), some (.inr (.inr (47, y3))), some (.inl x4), some (.inr (.inr (37, 0))), some (.inl x6), some (.inl x7), some (.inl x8), some (.inl x9), some (.inl x10), some (.inl x11), none], [.inl (σ 47 y3 1), .inl x11], σ) (Ps := []) rfl trivial ?_
      refine b_ige C0 kX0_multiplyInto_ok 38 (off := 67) (tgt := 141) rfl (by decide) (fun hb338 => ?_) (fun hb338 => ?_)
      · replace h := g_pos hb338 h
        cases h
        refine m_mask [true, true, true, true, true, true, true, true, true, true, false, false, false] (ls' := [some (.inr (.inr (51, y0))), some (.inr (.inr (47, y1))), some (.inl x2), some (.inr (.inr (47, y3))), some (.inl x4), some (.inr (.inr (37, 0))), some (.inl x6), some (.inl x7), some (.inl x8), some (.inl x9), none, none, none]) rfl ?_
        exact hK
      · replace h := g_neg hb338 h
        refine m_blk C0 (pX0_ok rfl) kX0_multiplyInto_ok 39 7 (89, [some (.inr (.inr (51, y0))), some (.inr (.inr (47, y1))), some (.inl x2), some (.inr (.inr (47, y3))), some (.inl x4), some (.inr (.inr (37, 0))), some (.inl x6), some (.inl x7), some (.inl x8), some (.inl x9), some (.inl x10), some (.inl x11), none], [.inl (mw (x7 + x11)), .inl (mw (x6 + x9)), .inr (.inr (37, 0))], σ) (Ps := []) rfl trivial ?_
        obtain ⟨⟨v334, s333⟩, hq337, h⟩ := g_bind h
        refine c_V (rest := []) C0 hFr (t_X7_indexOfProduct hG f.2.1 N hq337) lk_X0_105 (k_at kX0_multiplyInto_ok 46 rfl) rfl rfl rfl rfl ⟨_, _, rfl⟩ (by decide) (by decide) (Nat.le_of_ble_eq_true rfl) ?_
        refine m_blk C0 (pX0_ok rfl) kX0_multiplyInto_ok 47 4 (99, [some (.inr (.inr (51, y0))), some (.inr (.inr (47, y1))), some (.inl x2), some (.inr (.inr (47, y3))), some (.inl x4), some (.inr (.inr (37, 0))), some (.inl x6), some (.inl x7), some (.inl x8), some (.inl x9), some (.inl x10), some (.inl x11), some (.inl (mw (v334 - x8)))], [.inl (mw (v334 - x8))], s333) (Ps := []) rfl trivial ?_
        refine b_lt C0 kX0_multiplyInto_ok 51 (off := 36) (tgt := 135) rfl (by decide) (fun hb336 => ?_) (fun hb336 => ?_)
        · replace h := g_pos hb336 h
          refine m_blk C0 (pX0_ok rfl) kX0_multiplyInto_ok 73 2 (63, [some (.inr (.inr (51, y0))), some (.inr (.inr (47, y1))), some (.inl x2), some (.inr (.inr (47, y3))), some (.inl x4), some (.inr (.inr (37, 0))), some (.inl x6), some (.inl x7), some (.inl x8), some (.inl x9), some (.inl x10), some (.inl (mw (x11 + 1))), some (.inl (mw (v334 - x8)))], [], s333) (Ps := []) rfl trivial ?_
          refine m_mask [true, true, true, true, true, true, true, true, true, true, true, true, false] (ls' := [some (.inr (.inr (51, y0))), some (.inr (.inr (47, y1))), some (.inl x2), some (.inr (.inr (47, y3))), some (.inl x4), some (.inr (.inr (37, 0))), some (.inl x6), some (.inl x7), some (.inl x8), some (.inl x9), some (.inl x10), some (.inl (mw (x11 + 1))), none]) rfl ?_
          exact IH _ _ _ _ _ _ _ _ _ _ _ _ _ h hK
        · replace h := g_neg hb336 h
          refine m_blk C0 (pX0_ok rfl) kX0_multiplyInto_ok 52 3 (106, [some (.inr (.inr (51, y0))), some (.inr (.inr (47, y1))), some (.inl x2), some (.inr (.inr (47, y3))), some (.inl x4), some (.inr (.inr (37, 0))), some (.inl x6), some (.inl x7), some (.inl x8), some (.inl x9), some (.inl x10), some (.inl x11), some (.inl (mw (v334 - x8)))], [.inl ((gwd (y0 / 64) : Nat) : Int), .inl (mw (v334 - x8))], s333) (Ps := []) rfl trivial ?_
          refine b_ige C0 kX0_multiplyInto_ok 55 (off := 29) (tgt := 135) rfl (by decide) (fun hb335 => ?_) (fun hb335 => ?_)
          · replace h := g_pos hb335 h
            refine m_blk C0 (pX0_ok rfl) kX0_multiplyInto_ok 73 2 (63, [some (.inr (.inr (51, y0))), some (.inr (.inr (47, y1))), some (.inl x2), some (.inr (.inr (47, y3))), some (.inl x4), some (.inr (.inr (37, 0))), some (.inl x6), some (.inl x7), some (.inl x8), some (.inl x9), some (.inl x10), some (.inl (mw (x11 + 1))), some (.inl (mw (v334 - x8)))], [], s333) (Ps := []) rfl trivial ?_
            refine m_mask [true, true, true, true, true, true, true, true, true, true, true, true, false] (ls' := [some (.inr (.inr (51, y0))), some (.inr (.inr (47, y1))), some (.inl x2), some (.inr (.inr (47, y3))), some (.inl x4), some (.inr (.inr (37, 0))), some (.inl x6), some (.inl x7), some (.inl x8), some (.inl x9), some (.inl x10), some (.inl (mw (x11 + 1))), none]) rfl ?_
            exact IH _ _ _ _ _ _ _ _ _ _ _ _ _ h hK
          · replace h := g_neg hb335 h
            obtain ⟨hc, h⟩ := g_if h
            refine m_blk C0 (pX0_ok rfl) kX0_multiplyInto_ok 56 16 (134, [some (.inr (.inr (51, y0))), some (.inr (.inr (47, y1))), some (.inl x2), some (.inr (.inr (47, y3))), some (.inl x4), some (.inr (.inr (37, 0))), some (.inl x6), some (.inl x7), some (.inl x8), some (.inl x9), some (.inl x10), some (.inl x11), some (.inl (mw (v334 - x8)))], [.inl (o_rem (mw ((s333 51 y0 ((mw (v334 - x8)).toNat)) + (mw (x10 * (s333 51 (64 * y3 + x4.toNat) x11.toNat))))) 32003), .inl (mw (v334 - x8)), .inr (.inr (51, y0))], s333) (Ps := [0 ≤ (mw (v334 - x8)) ∧ (mw (v334 - x8)) < ((gwd (y0 / 64) : Nat) : Int), 0 ≤ x4 ∧ x4 < ((gmo y3 : Nat) : Int), 0 ≤ x11 ∧ x11 < ((gwd ((64 * y3 + x4.toNat) / 64) : Nat) : Int), ¬ (32003 : Int) = 0]) rfl (And.intro hc.1 (And.intro hc.2.1 (And.intro hc.2.2 (And.intro (by decide) trivial)))) ?_
            refine m_blk C0 (pX0_ok rfl) kX0_multiplyInto_ok 72 1 (135, [some (.inr (.inr (51, y0))), some (.inr (.inr (47, y1))), some (.inl x2), some (.inr (.inr (47, y3))), some (.inl x4), some (.inr (.inr (37, 0))), some (.inl x6), some (.inl x7), some (.inl x8), some (.inl x9), some (.inl x10), some (.inl x11), some (.inl (mw (v334 - x8)))], [], (mup s333 51 y0 ((mw (v334 - x8)).toNat) (o_rem (mw ((s333 51 y0 ((mw (v334 - x8)).toNat)) + (mw (x10 * (s333 51 (64 * y3 + x4.toNat) x11.toNat))))) 32003))) (Ps := [0 ≤ (mw (v334 - x8)) ∧ (mw (v334 - x8)) < ((gwd (y0 / 64) : Nat) : Int)]) rfl (And.intro hc.1 trivial) ?_
            refine m_blk C0 (pX0_ok rfl) kX0_multiplyInto_ok 73 2 (63, [some (.inr (.inr (51, y0))), some (.inr (.inr (47, y1))), some (.inl x2), some (.inr (.inr (47, y3))), some (.inl x4), some (.inr (.inr (37, 0))), some (.inl x6), some (.inl x7), some (.inl x8), some (.inl x9), some (.inl x10), some (.inl (mw (x11 + 1))), some (.inl (mw (v334 - x8)))], [], (mup s333 51 y0 ((mw (v334 - x8)).toNat) (o_rem (mw ((s333 51 y0 ((mw (v334 - x8)).toNat)) + (mw (x10 * (s333 51 (64 * y3 + x4.toNat) x11.toNat))))) 32003))) (Ps := []) rfl trivial ?_
            refine m_mask [true, true, true, true, true, true, true, true, true, true, true, true, false] (ls' := [some (.inr (.inr (51, y0))), some (.inr (.inr (47, y1))), some (.inl x2), some (.inr (.inr (47, y3))), some (.inl x4), some (.inr (.inr (37, 0))), some (.inl x6), some (.inl x7), some (.inl x8), some (.inl x9), some (.inl x10), some (.inl (mw (x11 + 1))), none]) rfl ?_
            exact IH _ _ _ _ _ _ _ _ _ _ _ _ _ h hK
set_option maxRecDepth 100000 in
set_option maxHeartbeats 4000000 in
theorem p_X0_multiplyInto_r51_40 {e : mEv} (hG : mGeo (mw0 e) lw_kept) (N : Nat) {f : mFx} (C0 : mCx f (mw0 e) sc0 cX0_multiplyInto 13 RX0 lw_kept) (hFr : mFr f 2) : ∀ (n : Nat) (y0 : Nat) (y1 : Nat) (x2 : Int) (y3 : Nat) (x4 : Int) (x6 : Int) (x7 : Int) (x8 : Int) (x9 : Int) (σ : mS) (σ' : mS), L_X0_multiplyInto_r51_40 N n y0 y1 x2 y3 x4 x6 x7 x8 x9 σ = some σ' → mWW f (mw0 e) sc0 13 (147, [none, none, none, none, none, none, none, none, none, none, none, none, none], [], σ') → mWW f (mw0 e) sc0 13 (40, [some (.inr (.inr (51, y0))), some (.inr (.inr (47, y1))), some (.inl x2), some (.inr (.inr (47, y3))), some (.inl x4), some (.inr (.inr (37, 0))), some (.inl x6), some (.inl x7), some (.inl x8), some (.inl x9), none, none, none], [], σ) := by
  intro n
  induction n with
  | zero =>
    intro y0 y1 x2 y3 x4 x6 x7 x8 x9 σ σ' h hK
    cases h
  | succ n IH =>
    intro y0 y1 x2 y3 x4 x6 x7 x8 x9 σ σ' h hK
    rw [L_X0_multiplyInto_r51_40_s] at h
    refine m_blk C0 (pX0_ok rfl) kX0_multiplyInto_ok 20 3 (46, [some (.inr (.inr (51, y0))), some (.inr (.inr (47, y1))), some (.inl x2), some (.inr (.inr (47, y3))), some (.inl x4), some (.inr (.inr (37, 0))), some (.inl x6), some (.inl x7), some (.inl x8), some (.inl x9), none, none, none], [.inl (σ 47 y1 1), .inl x9], σ) (Ps := []) rfl trivial ?_
    refine b_ige C0 kX0_multiplyInto_ok 23 (off := 101) (tgt := 147) rfl (by decide) (fun hb342 => ?_) (fun hb342 => ?_)
    · replace h := g_pos hb342 h
      cases h
      refine m_mask [false, false, false, false, false, false, false, false, false, false, false, false, false] (ls' := [none, none, none, none, none, none, none, none, none, none, none, none, none]) rfl ?_
      exact hK
    · replace h := g_neg hb342 h
      obtain ⟨hc, h⟩ := g_if h
      refine m_blk C0 (pX0_ok rfl) kX0_multiplyInto_ok 24 9 (63, [some (.inr (.inr (51, y0))), some (.inr (.inr (47, y1))), some (.inl x2), some (.inr (.inr (47, y3))), some (.inl x4), some (.inr (.inr (37, 0))), some (.inl x6), some (.inl x7), some (.inl x8), some (.inl x9), some (.inl (σ 51 (64 * y1 + x2.toNat) x9.toNat)), some (.inl 0), none], [], σ) (Ps := [0 ≤ x2 ∧ x2 < ((gmo y1 : Nat) : Int), 0 ≤ x9 ∧ x9 < ((gwd ((64 * y1 + x2.toNat) / 64) : Nat) : Int)]) rfl (And.intro hc.1 (And.intro hc.2 trivial)) ?_
      obtain ⟨s340, hq341, h⟩ := g_bind h
      refine m_mask [true, true, true, true, true, true, true, true, true, true, true, true, false] (ls' := [some (.inr (.inr (51, y0))), some (.inr (.inr (47, y1))), some (.inl x2), some (.inr (.inr (47, y3))), some (.inl x4), some (.inr (.inr (37, 0))), some (.inl x6), some (.inl x7), some (.inl x8), some (.inl x9), some (.inl (σ 51 (64 * y1 + x2.toNat) x9.toNat)), some (.inl 0), none]) rfl ?_
      refine p_X0_multiplyInto_r51_63 hG N C0 hFr N _ _ _ _ _ _ _ _ _ _ _ _ _ hq341 ?_
      refine m_blk C0 (pX0_ok rfl) kX0_multiplyInto_ok 75 2 (40, [some (.inr (.inr (51, y0))), some (.inr (.inr (47, y1))), some (.inl x2), some (.inr (.inr (47, y3))), some (.inl x4), some (.inr (.inr (37, 0))), some (.inl x6), some (.inl x7), some (.inl x8), some (.inl (mw (x9 + 1))), none, none, none], [], s340) (Ps := []) rfl trivial ?_
      refine m_mask [true, true, true, true, true, true, true, true, true, true, false, false, false] (ls' := [some (.inr (.inr (51, y0))), some (.inr (.inr (47, y1))), some (.inl x2), some (.inr (.inr (47, y3))), some (.inl x4), some (.inr (.inr (37, 0))), some (.inl x6), some (.inl x7), some (.inl x8), some (.inl (mw (x9 + 1))), none, none, none]) rfl ?_
      exact IH _ _ _ _ _ _ _ _ _ _ _ h hK
set_option maxRecDepth 100000 in
set_option maxHeartbeats 4000000 in
theorem t_X0_multiplyInto_r51 {e : mEv} (hG : mGeo (mw0 e) lw_kept) (l : Launch) (N : Nat) {q0 : Nat} {q1 : Nat} {a2 : Int} {q3 : Nat} {a4 : Int} {σ σ' : mS} (h : f_X0_multiplyInto_r51 N q0 q1 a2 q3 a4 σ = some σ') : mMet l (mw0 e) lw_kept 2 yX0_multiplyInto cX0_multiplyInto 13 none [.inr (.inr (51, q0)), .inr (.inr (47, q1)), .inl a2, .inr (.inr (47, q3)), .inl a4, .inr (.inr (37, 0))] σ none σ' := by
  refine mMet_intro (plainFor_of_name (by decide)) hG (Nat.le_of_ble_eq_true rfl) (fun f hl hR C0 hFin => ?_)
  subst hl
  have hFr := mFr_of hR hFin
  unfold f_X0_multiplyInto_r51 at h
  show mWW f (mw0 e) sc0 13 (0, [some (.inr (.inr (51, q0))), some (.inr (.inr (47, q1))), some (.inl a2), some (.inr (.inr (47, q3))), some (.inl a4), some (.inr (.inr (37, 0))), none, none, none, none, none, none, none], [], σ)
  refine m_blk C0 (pX0_ok rfl) kX0_multiplyInto_ok 0 2 (2, [some (.inr (.inr (51, q0))), some (.inr (.inr (47, q1))), some (.inl a2), some (.inr (.inr (47, q3))), some (.inl a4), some (.inr (.inr (37, 0))), none, none, none, none, none, none, none], [.inl 0, .inr (.inr (51, q0))], σ) (Ps := []) rfl trivial ?_
  obtain ⟨s323, hq348, h⟩ := g_bind h
  refine c_S (rest := []) C0 hFr (t_J7_fill_53178_r51 hG f.2.1 N hq348) lk_X0_93 (k_at kX0_multiplyInto_ok 2 rfl) rfl rfl rfl (by decide) (by decide) (Nat.le_of_ble_eq_true rfl) ?_
  refine m_blk C0 (pX0_ok rfl) kX0_multiplyInto_ok 3 2 (9, [some (.inr (.inr (51, q0))), some (.inr (.inr (47, q1))), some (.inl a2), some (.inr (.inr (47, q3))), some (.inl a4), some (.inr (.inr (37, 0))), none, none, none, none, none, none, none], [.inl (s323 47 q1 0)], s323) (Ps := []) rfl trivial ?_
  obtain ⟨⟨v325, s324⟩, hq347, h⟩ := g_bind h
  refine c_S (rest := []) C0 hFr (t_X7_firstOf hG f.2.1 N hq347) lk_X0_99 (k_at kX0_multiplyInto_ok 5 rfl) rfl rfl rfl (by decide) (by decide) (Nat.le_of_ble_eq_true rfl) ?_
  refine m_blk C0 (pX0_ok rfl) kX0_multiplyInto_ok 6 3 (18, [some (.inr (.inr (51, q0))), some (.inr (.inr (47, q1))), some (.inl a2), some (.inr (.inr (47, q3))), some (.inl a4), some (.inr (.inr (37, 0))), some (.inl v325), none, none, none, none, none, none], [.inl (s324 47 q3 0)], s324) (Ps := []) rfl trivial ?_
  obtain ⟨⟨v327, s326⟩, hq346, h⟩ := g_bind h
  refine c_S (rest := []) C0 hFr (t_X7_firstOf hG f.2.1 N hq346) lk_X0_99 (k_at kX0_multiplyInto_ok 9 rfl) rfl rfl rfl (by decide) (by decide) (Nat.le_of_ble_eq_true rfl) ?_
  refine m_blk C0 (pX0_ok rfl) kX0_multiplyInto_ok 10 6 (32, [some (.inr (.inr (51, q0))), some (.inr (.inr (47, q1))), some (.inl a2), some (.inr (.inr (47, q3))), some (.inl a4), some (.inr (.inr (37, 0))), some (.inl v325), some (.inl v327), none, none, none, none, none], [.inl (mw ((s326 47 q1 0) + (s326 47 q3 0)))], s326) (Ps := []) rfl trivial ?_
  obtain ⟨⟨v329, s328⟩, hq345, h⟩ := g_bind h
  refine c_S (rest := []) C0 hFr (t_X7_firstOf hG f.2.1 N hq345) lk_X0_99 (k_at kX0_multiplyInto_ok 16 rfl) rfl rfl rfl (by decide) (by decide) (Nat.le_of_ble_eq_true rfl) ?_
  refine m_blk C0 (pX0_ok rfl) kX0_multiplyInto_ok 17 3 (40, [some (.inr (.inr (51, q0))), some (.inr (.inr (47, q1))), some (.inl a2), some (.inr (.inr (47, q3))), some (.inl a4), some (.inr (.inr (37, 0))), some (.inl v325), some (.inl v327), some (.inl v329), some (.inl 0), none, none, none], [], s328) (Ps := []) rfl trivial ?_
  obtain ⟨s343, hq344, h⟩ := g_bind h
  refine m_mask [true, true, true, true, true, true, true, true, true, true, false, false, false] (ls' := [some (.inr (.inr (51, q0))), some (.inr (.inr (47, q1))), some (.inl a2), some (.inr (.inr (47, q3))), some (.inl a4), some (.inr (.inr (37, 0))), some (.inl v325), some (.inl v327), some (.inl v329), some (.inl 0), none, none, none]) rfl ?_
  refine p_X0_multiplyInto_r51_40 hG N C0 hFr N _ _ _ _ _ _ _ _ _ _ _ hq344 ?_
  cases h
  exact m_vret C0 hFin (k_at kX0_multiplyInto_ok 77 rfl)
set_option maxRecDepth 100000 in
set_option maxHeartbeats 4000000 in
theorem t_X0_addProduct {e : mEv} (hG : mGeo (mw0 e) lw_kept) (l : Launch) (N : Nat) {q1 : Nat} {a2 : Int} {q3 : Nat} {a4 : Int} {σ σ' : mS} (h : f_X0_addProduct N q1 a2 q3 a4 σ = some σ') : mMet l (mw0 e) lw_kept 4 yX0_addProduct cX0_addProduct 7 none [.inr (.inr (42, 0)), .inr (.inr (47, q1)), .inl a2, .inr (.inr (47, q3)), .inl a4, .inr (.inr (37, 0))] σ none σ' := by
  refine mMet_intro (plainFor_of_name (by decide)) hG (Nat.le_of_ble_eq_true rfl) (fun f hl hR C0 hFin => ?_)
  subst hl
  have hFr := mFr_of hR hFin
  unfold f_X0_addProduct at h
  show mWW f (mw0 e) sc0 7 (0, [some (.inr (.inr (42, 0))), some (.inr (.inr (47, q1))), some (.inl a2), some (.inr (.inr (47, q3))), some (.inl a4), some (.inr (.inr (37, 0))), none], [], σ)
  obtain ⟨hc, h⟩ := g_if h
  refine m_blk C0 (pX0_ok rfl) kX0_addProduct_ok 0 14 (24, [some (.inr (.inr (42, 0))), some (.inr (.inr (47, q1))), some (.inl a2), some (.inr (.inr (47, q3))), some (.inl a4), some (.inr (.inr (37, 0))), some (.inl (σ 47 q1 3))], [.inl 6, .inl 0, .inr (.inr (49, 64 * q1 + (σ 47 q1 3).toNat)), .inl 0, .inr (.inr (49, 64 * q3 + a4.toNat))], σ) (Ps := [0 ≤ a4 ∧ a4 < ((gmo q3 : Nat) : Int), 0 ≤ (σ 47 q1 3) ∧ (σ 47 q1 3) < ((gmo q1 : Nat) : Int)]) rfl (And.intro hc.1 (And.intro hc.2 trivial)) ?_
  refine c_copy (rest := []) C0 hFr lkc_2 (k_at kX0_addProduct_ok 14 rfl) rfl rfl rfl (by decide) (Nat.le_of_ble_eq_true rfl) (show 0 ≤ (0 : Int) ∧ 0 ≤ (0 : Int) ∧ 0 ≤ (6 : Int) ∧ (0 : Int) + 6 ≤ 6 ∧ (0 : Int) + 6 ≤ 6 from by decide) ?_
  obtain ⟨hc, h⟩ := g_if h
  refine m_blk C0 (pX0_ok rfl) kX0_addProduct_ok 15 10 (40, [some (.inr (.inr (42, 0))), some (.inr (.inr (47, q1))), some (.inl a2), some (.inr (.inr (47, q3))), some (.inl a4), some (.inr (.inr (37, 0))), some (.inl (σ 47 q1 3))], [], (mup (mcp σ 49 (64 * q3 + a4.toNat) 0 49 (64 * q1 + (σ 47 q1 3).toNat) 0 6) 49 (64 * q1 + (σ 47 q1 3).toNat) a2.toNat (mw (((mcp σ 49 (64 * q3 + a4.toNat) 0 49 (64 * q1 + (σ 47 q1 3).toNat) 0 6) 49 (64 * q1 + (σ 47 q1 3).toNat) a2.toNat) + 1)))) (Ps := [0 ≤ (σ 47 q1 3) ∧ (σ 47 q1 3) < ((gmo q1 : Nat) : Int), 0 ≤ a2 ∧ a2 < 6, 0 ≤ a2 ∧ a2 < 6]) rfl (And.intro hc.1 (And.intro hc.2.1 (And.intro hc.2.1 trivial))) ?_
  refine m_blk C0 (pX0_ok rfl) kX0_addProduct_ok 25 5 (48, [some (.inr (.inr (42, 0))), some (.inr (.inr (47, q1))), some (.inl a2), some (.inr (.inr (47, q3))), some (.inl a4), some (.inr (.inr (37, 0))), some (.inl (σ 47 q1 3))], [], (mup (mup (mcp σ 49 (64 * q3 + a4.toNat) 0 49 (64 * q1 + (σ 47 q1 3).toNat) 0 6) 49 (64 * q1 + (σ 47 q1 3).toNat) a2.toNat (mw (((mcp σ 49 (64 * q3 + a4.toNat) 0 49 (64 * q1 + (σ 47 q1 3).toNat) 0 6) 49 (64 * q1 + (σ 47 q1 3).toNat) a2.toNat) + 1))) 52 q1 ((σ 47 q1 3).toNat) a2)) (Ps := [0 ≤ (σ 47 q1 3) ∧ (σ 47 q1 3) < ((gmo q1 : Nat) : Int)]) rfl (And.intro hc.1 trivial) ?_
  refine m_blk C0 (pX0_ok rfl) kX0_addProduct_ok 30 16 (73, [some (.inr (.inr (42, 0))), some (.inr (.inr (47, q1))), some (.inl a2), some (.inr (.inr (47, q3))), some (.inl a4), some (.inr (.inr (37, 0))), some (.inl (σ 47 q1 3))], [.inr (.inr (47, q3)), .inl (σ 44 0 a2.toNat), .inr (.inr (47, (σ 43 0 a2.toNat).toNat)), .inr (.inr (51, 64 * q1 + (σ 47 q1 3).toNat))], (mup (mup (mcp σ 49 (64 * q3 + a4.toNat) 0 49 (64 * q1 + (σ 47 q1 3).toNat) 0 6) 49 (64 * q1 + (σ 47 q1 3).toNat) a2.toNat (mw (((mcp σ 49 (64 * q3 + a4.toNat) 0 49 (64 * q1 + (σ 47 q1 3).toNat) 0 6) 49 (64 * q1 + (σ 47 q1 3).toNat) a2.toNat) + 1))) 52 q1 ((σ 47 q1 3).toNat) a2)) (Ps := [0 ≤ (σ 47 q1 3) ∧ (σ 47 q1 3) < ((gmo q1 : Nat) : Int), 0 ≤ a2 ∧ a2 < 6, 0 ≤ (σ 43 0 a2.toNat) ∧ (σ 43 0 a2.toNat) < 7, 0 ≤ a2 ∧ a2 < 6]) rfl (And.intro hc.1 (And.intro hc.2.1 (And.intro hc.2.2 (And.intro hc.2.1 trivial)))) ?_
  refine m_blk C0 (pX0_ok rfl) kX0_addProduct_ok 46 2 (77, [some (.inr (.inr (42, 0))), some (.inr (.inr (47, q1))), some (.inl a2), some (.inr (.inr (47, q3))), some (.inl a4), some (.inr (.inr (37, 0))), some (.inl (σ 47 q1 3))], [.inr (.inr (37, 0)), .inl a4, .inr (.inr (47, q3)), .inl (σ 44 0 a2.toNat), .inr (.inr (47, (σ 43 0 a2.toNat).toNat)), .inr (.inr (51, 64 * q1 + (σ 47 q1 3).toNat))], (mup (mup (mcp σ 49 (64 * q3 + a4.toNat) 0 49 (64 * q1 + (σ 47 q1 3).toNat) 0 6) 49 (64 * q1 + (σ 47 q1 3).toNat) a2.toNat (mw (((mcp σ 49 (64 * q3 + a4.toNat) 0 49 (64 * q1 + (σ 47 q1 3).toNat) 0 6) 49 (64 * q1 + (σ 47 q1 3).toNat) a2.toNat) + 1))) 52 q1 ((σ 47 q1 3).toNat) a2)) (Ps := []) rfl trivial ?_
  obtain ⟨s349, hq353, h⟩ := g_bind h
  refine c_S (rest := []) C0 hFr (t_X0_multiplyInto_r51 hG f.2.1 N hq353) lk_X0_89 (k_at kX0_addProduct_ok 48 rfl) rfl rfl rfl (by decide) (by decide) (Nat.le_of_ble_eq_true rfl) ?_
  obtain ⟨hc, h⟩ := g_if h
  refine m_blk C0 (pX0_ok rfl) kX0_addProduct_ok 49 6 (90, [some (.inr (.inr (42, 0))), some (.inr (.inr (47, q1))), some (.inl a2), some (.inr (.inr (47, q3))), some (.inl a4), some (.inr (.inr (37, 0))), some (.inl (σ 47 q1 3))], [.inl (σ 47 q1 3), .inr (.inr (51, 64 * q1 + (σ 47 q1 3).toNat)), .inr (.inr (47, q1))], s349) (Ps := [0 ≤ (σ 47 q1 3) ∧ (σ 47 q1 3) < ((gmo q1 : Nat) : Int)]) rfl (And.intro hc trivial) ?_
  obtain ⟨⟨v351, s350⟩, hq352, h⟩ := g_bind h
  refine c_V (rest := []) C0 hFr (t_X3_keepIfFree_r51 hG f.2.1 N hq352) lk_X0_65 (k_at kX0_addProduct_ok 55 rfl) rfl rfl rfl rfl ⟨_, _, rfl⟩ (by decide) (by decide) (Nat.le_of_ble_eq_true rfl) ?_
  refine m_blk C0 (pX0_ok rfl) kX0_addProduct_ok 56 7 (104, [some (.inr (.inr (42, 0))), some (.inr (.inr (47, q1))), some (.inl a2), some (.inr (.inr (47, q3))), some (.inl a4), some (.inr (.inr (37, 0))), some (.inl (σ 47 q1 3))], [], (mup s350 47 q1 3 (mw ((s350 47 q1 3) + 1)))) (Ps := []) rfl trivial ?_
  cases h
  exact m_vret C0 hFin (k_at kX0_addProduct_ok 63 rfl)
set_option maxRecDepth 100000 in
set_option maxHeartbeats 4000000 in
theorem p_X0_addProducts_50 {e : mEv} (hG : mGeo (mw0 e) lw_kept) (N : Nat) {f : mFx} (C0 : mCx f (mw0 e) sc0 cX0_addProducts 7 RX0 lw_kept) (hFr : mFr f 5) : ∀ (n : Nat) (y1 : Nat) (x3 : Int) (y5 : Nat) (x6 : Int) (σ : mS) (σ' : mS), L_X0_addProducts_50 N n y1 x3 y5 x6 σ = some σ' → mWW f (mw0 e) sc0 7 (96, [some (.inr (.inr (42, 0))), some (.inr (.inr (47, y1))), some (.inr (.inr (37, 0))), some (.inl x3), none, none, none], [], σ') → mWW f (mw0 e) sc0 7 (50, [some (.inr (.inr (42, 0))), some (.inr (.inr (47, y1))), some (.inr (.inr (37, 0))), some (.inl x3), none, some (.inr (.inr (47, y5))), some (.inl x6)], [], σ) := by
  intro n
  induction n with
  | zero =>
    intro y1 x3 y5 x6 σ σ' h hK
    cases h
  | succ n IH =>
    intro y1 x3 y5 x6 σ σ' h hK
    rw [L_X0_addProducts_50_s] at h
    refine m_blk C0 (pX0_ok rfl) kX0_addProducts_ok 27 3 (57, [some (.inr (.inr (42, 0))), some (.inr (.inr (47, y1))), some (.inr (.inr (37, 0))), some (.inl x3), none, some (.inr (.inr (47, y5))), some (.inl x6)], [.inl (σ 47 y5 3), .inl x6], σ) (Ps := []) rfl trivial ?_
    refine b_ige C0 kX0_addProducts_ok 30 (off := 39) (tgt := 96) rfl (by decide) (fun hb359 => ?_) (fun hb359 => ?_)
    · replace h := g_pos hb359 h
      cases h
      refine m_mask [true, true, true, true, false, false, false] (ls' := [some (.inr (.inr (42, 0))), some (.inr (.inr (47, y1))), some (.inr (.inr (37, 0))), some (.inl x3), none, none, none]) rfl ?_
      exact hK
    · replace h := g_neg hb359 h
      obtain ⟨hc, h⟩ := g_if h
      refine m_blk C0 (pX0_ok rfl) kX0_addProducts_ok 31 5 (69, [some (.inr (.inr (42, 0))), some (.inr (.inr (47, y1))), some (.inr (.inr (37, 0))), some (.inl x3), none, some (.inr (.inr (47, y5))), some (.inl x6)], [.inl x3, .inl (σ 52 y5 x6.toNat)], σ) (Ps := [0 ≤ x6 ∧ x6 < ((gmo y5 : Nat) : Int)]) rfl (And.intro hc trivial) ?_
      refine b_ilt C0 kX0_addProducts_ok 36 (off := 21) (tgt := 90) rfl (by decide) (fun hb358 => ?_) (fun hb358 => ?_)
      · replace h := g_pos hb358 h
        refine m_blk C0 (pX0_ok rfl) kX0_addProducts_ok 47 2 (50, [some (.inr (.inr (42, 0))), some (.inr (.inr (47, y1))), some (.inr (.inr (37, 0))), some (.inl x3), none, some (.inr (.inr (47, y5))), some (.inl (mw (x6 + 1)))], [], σ) (Ps := []) rfl trivial ?_
        refine m_mask [true, true, true, true, false, true, true] (ls' := [some (.inr (.inr (42, 0))), some (.inr (.inr (47, y1))), some (.inr (.inr (37, 0))), some (.inl x3), none, some (.inr (.inr (47, y5))), some (.inl (mw (x6 + 1)))]) rfl ?_
        exact IH _ _ _ _ _ _ h hK
      · replace h := g_neg hb358 h
        refine m_blk C0 (pX0_ok rfl) kX0_addProducts_ok 37 1 (73, [some (.inr (.inr (42, 0))), some (.inr (.inr (47, y1))), some (.inr (.inr (37, 0))), some (.inl x3), none, some (.inr (.inr (47, y5))), some (.inl x6)], [.inr (.inr (47, y1))], σ) (Ps := []) rfl trivial ?_
        obtain ⟨⟨v319, s318⟩, hq357, h⟩ := g_bind h
        refine c_V (rest := []) C0 hFr (t_X3_isFull hG f.2.1 N hq357) lk_X0_72 (k_at kX0_addProducts_ok 38 rfl) rfl rfl rfl rfl ⟨_, _, rfl⟩ (by decide) (by decide) (Nat.le_of_ble_eq_true rfl) ?_
        refine b_ne C0 kX0_addProducts_ok 39 (off := 14) (tgt := 90) rfl (by decide) (fun hb356 => ?_) (fun hb356 => ?_)
        · replace h := g_neg hb356 h
          refine m_blk C0 (pX0_ok rfl) kX0_addProducts_ok 47 2 (50, [some (.inr (.inr (42, 0))), some (.inr (.inr (47, y1))), some (.inr (.inr (37, 0))), some (.inl x3), none, some (.inr (.inr (47, y5))), some (.inl (mw (x6 + 1)))], [], s318) (Ps := []) rfl trivial ?_
          refine m_mask [true, true, true, true, false, true, true] (ls' := [some (.inr (.inr (42, 0))), some (.inr (.inr (47, y1))), some (.inr (.inr (37, 0))), some (.inl x3), none, some (.inr (.inr (47, y5))), some (.inl (mw (x6 + 1)))]) rfl ?_
          exact IH _ _ _ _ _ _ h hK
        · replace h := g_pos hb356 h
          refine m_blk C0 (pX0_ok rfl) kX0_addProducts_ok 40 6 (87, [some (.inr (.inr (42, 0))), some (.inr (.inr (47, y1))), some (.inr (.inr (37, 0))), some (.inl x3), none, some (.inr (.inr (47, y5))), some (.inl x6)], [.inr (.inr (37, 0)), .inl x6, .inr (.inr (47, y5)), .inl x3, .inr (.inr (47, y1)), .inr (.inr (42, 0))], s318) (Ps := []) rfl trivial ?_
          obtain ⟨s354, hq355, h⟩ := g_bind h
          refine c_V (rest := []) C0 hFr (t_X0_addProduct hG f.2.1 N hq355) lk_X0_76 (k_at kX0_addProducts_ok 46 rfl) rfl rfl rfl rfl ⟨_, _, rfl⟩ (by decide) (by decide) (Nat.le_of_ble_eq_true rfl) ?_
          refine m_blk C0 (pX0_ok rfl) kX0_addProducts_ok 47 2 (50, [some (.inr (.inr (42, 0))), some (.inr (.inr (47, y1))), some (.inr (.inr (37, 0))), some (.inl x3), none, some (.inr (.inr (47, y5))), some (.inl (mw (x6 + 1)))], [], s354) (Ps := []) rfl trivial ?_
          refine m_mask [true, true, true, true, false, true, true] (ls' := [some (.inr (.inr (42, 0))), some (.inr (.inr (47, y1))), some (.inr (.inr (37, 0))), some (.inl x3), none, some (.inr (.inr (47, y5))), some (.inl (mw (x6 + 1)))]) rfl ?_
          exact IH _ _ _ _ _ _ h hK
set_option maxRecDepth 100000 in
set_option maxHeartbeats 4000000 in
theorem p_X0_addProducts_2 {e : mEv} (hG : mGeo (mw0 e) lw_kept) (N : Nat) {f : mFx} (C0 : mCx f (mw0 e) sc0 cX0_addProducts 7 RX0 lw_kept) (hFr : mFr f 5) : ∀ (n : Nat) (y1 : Nat) (x3 : Int) (σ : mS) (σ' : mS), L_X0_addProducts_2 N n y1 x3 σ = some σ' → mWW f (mw0 e) sc0 7 (102, [none, none, none, none, none, none, none], [], σ') → mWW f (mw0 e) sc0 7 (2, [some (.inr (.inr (42, 0))), some (.inr (.inr (47, y1))), some (.inr (.inr (37, 0))), some (.inl x3), none, none, none], [], σ) := by
  intro n
  induction n with
  | zero =>
    intro y1 x3 σ σ' h hK
    cases h
  | succ n IH =>
    intro y1 x3 σ σ' h hK
    rw [L_X0_addProducts_2_s] at h
    refine m_blk C0 (pX0_ok rfl) kX0_addProducts_ok 2 3 (7, [some (.inr (.inr (42, 0))), some (.inr (.inr (47, y1))), some (.inr (.inr (37, 0))), some (.inl x3), none, none, none], [.inl (σ 42 0 0), .inl x3], σ) (Ps := []) rfl trivial ?_
    refine b_ige C0 kX0_addProducts_ok 5 (off := 95) (tgt := 102) rfl (by decide) (fun hb364 => ?_) (fun hb364 => ?_)
    · replace h := g_pos hb364 h
      cases h
      refine m_mask [false, false, false, false, false, false, false] (ls' := [none, none, none, none, none, none, none]) rfl ?_
      exact hK
    · replace h := g_neg hb364 h
      obtain ⟨hc, h⟩ := g_if h
      refine m_blk C0 (pX0_ok rfl) kX0_addProducts_ok 6 9 (25, [some (.inr (.inr (42, 0))), some (.inr (.inr (47, y1))), some (.inr (.inr (37, 0))), some (.inl x3), some (.inl (mw ((σ 47 y1 0) - (σ 43 0 x3.toNat)))), none, none], [.inl (mw ((σ 47 y1 0) - (σ 43 0 x3.toNat)))], σ) (Ps := [0 ≤ x3 ∧ x3 < 6]) rfl (And.intro hc trivial) ?_
      refine b_lt C0 kX0_addProducts_ok 15 (off := 71) (tgt := 96) rfl (by decide) (fun hb363 => ?_) (fun hb363 => ?_)
      · replace h := g_pos hb363 h
        refine m_blk C0 (pX0_ok rfl) kX0_addProducts_ok 49 2 (2, [some (.inr (.inr (42, 0))), some (.inr (.inr (47, y1))), some (.inr (.inr (37, 0))), some (.inl (mw (x3 + 1))), some (.inl (mw ((σ 47 y1 0) - (σ 43 0 x3.toNat)))), none, none], [], σ) (Ps := []) rfl trivial ?_
        refine m_mask [true, true, true, true, false, false, false] (ls' := [some (.inr (.inr (42, 0))), some (.inr (.inr (47, y1))), some (.inr (.inr (37, 0))), some (.inl (mw (x3 + 1))), none, none, none]) rfl ?_
        exact IH _ _ _ _ h hK
      · replace h := g_neg hb363 h
        refine m_blk C0 (pX0_ok rfl) kX0_addProducts_ok 16 2 (32, [some (.inr (.inr (42, 0))), some (.inr (.inr (47, y1))), some (.inr (.inr (37, 0))), some (.inl x3), some (.inl (mw ((σ 47 y1 0) - (σ 43 0 x3.toNat)))), none, none], [.inl 6, .inl (mw ((σ 47 y1 0) - (σ 43 0 x3.toNat)))], σ) (Ps := []) rfl trivial ?_
        refine b_ile C0 kX0_addProducts_ok 18 (off := 6) (tgt := 38) rfl (by decide) (fun hb362 => ?_) (fun hb362 => ?_)
        · replace h := g_pos hb362 h
          obtain ⟨hc, h⟩ := g_if h
          refine m_blk C0 (pX0_ok rfl) kX0_addProducts_ok 20 7 (50, [some (.inr (.inr (42, 0))), some (.inr (.inr (47, y1))), some (.inr (.inr (37, 0))), some (.inl x3), some (.inl (mw ((σ 47 y1 0) - (σ 43 0 x3.toNat)))), some (.inr (.inr (47, (mw ((σ 47 y1 0) - (σ 43 0 x3.toNat))).toNat))), some (.inl 0)], [], σ) (Ps := [0 ≤ (mw ((σ 47 y1 0) - (σ 43 0 x3.toNat))) ∧ (mw ((σ 47 y1 0) - (σ 43 0 x3.toNat))) < 7]) rfl (And.intro hc trivial) ?_
          obtain ⟨s360, hq361, h⟩ := g_bind h
          refine m_mask [true, true, true, true, false, true, true] (ls' := [some (.inr (.inr (42, 0))), some (.inr (.inr (47, y1))), some (.inr (.inr (37, 0))), some (.inl x3), none, some (.inr (.inr (47, (mw ((σ 47 y1 0) - (σ 43 0 x3.toNat))).toNat))), some (.inl 0)]) rfl ?_
          refine p_X0_addProducts_50 hG N C0 hFr N _ _ _ _ _ _ hq361 ?_
          refine m_blk C0 (pX0_ok rfl) kX0_addProducts_ok 49 2 (2, [some (.inr (.inr (42, 0))), some (.inr (.inr (47, y1))), some (.inr (.inr (37, 0))), some (.inl (mw (x3 + 1))), none, none, none], [], s360) (Ps := []) rfl trivial ?_
          refine m_mask [true, true, true, true, false, false, false] (ls' := [some (.inr (.inr (42, 0))), some (.inr (.inr (47, y1))), some (.inr (.inr (37, 0))), some (.inl (mw (x3 + 1))), none, none, none]) rfl ?_
          exact IH _ _ _ _ h hK
        · replace h := g_neg hb362 h
          refine m_blk C0 (pX0_ok rfl) kX0_addProducts_ok 19 1 (96, [some (.inr (.inr (42, 0))), some (.inr (.inr (47, y1))), some (.inr (.inr (37, 0))), some (.inl x3), some (.inl (mw ((σ 47 y1 0) - (σ 43 0 x3.toNat)))), none, none], [], σ) (Ps := []) rfl trivial ?_
          refine m_blk C0 (pX0_ok rfl) kX0_addProducts_ok 49 2 (2, [some (.inr (.inr (42, 0))), some (.inr (.inr (47, y1))), some (.inr (.inr (37, 0))), some (.inl (mw (x3 + 1))), some (.inl (mw ((σ 47 y1 0) - (σ 43 0 x3.toNat)))), none, none], [], σ) (Ps := []) rfl trivial ?_
          refine m_mask [true, true, true, true, false, false, false] (ls' := [some (.inr (.inr (42, 0))), some (.inr (.inr (47, y1))), some (.inr (.inr (37, 0))), some (.inl (mw (x3 + 1))), none, none, none]) rfl ?_
          exact IH _ _ _ _ h hK
set_option maxRecDepth 100000 in
set_option maxHeartbeats 4000000 in
theorem t_X0_addProducts {e : mEv} (hG : mGeo (mw0 e) lw_kept) (l : Launch) (N : Nat) {q1 : Nat} {σ σ' : mS} (h : f_X0_addProducts N q1 σ = some σ') : mMet l (mw0 e) lw_kept 5 yX0_addProducts cX0_addProducts 7 none [.inr (.inr (42, 0)), .inr (.inr (47, q1)), .inr (.inr (37, 0))] σ none σ' := by
  refine mMet_intro (plainFor_of_name (by decide)) hG (Nat.le_of_ble_eq_true rfl) (fun f hl hR C0 hFin => ?_)
  subst hl
  have hFr := mFr_of hR hFin
  unfold f_X0_addProducts at h
  show mWW f (mw0 e) sc0 7 (0, [some (.inr (.inr (42, 0))), some (.inr (.inr (47, q1))), some (.inr (.inr (37, 0))), none, none, none, none], [], σ)
  refine m_blk C0 (pX0_ok rfl) kX0_addProducts_ok 0 2 (2, [some (.inr (.inr (42, 0))), some (.inr (.inr (47, q1))), some (.inr (.inr (37, 0))), some (.inl 0), none, none, none], [], σ) (Ps := []) rfl trivial ?_
  obtain ⟨s365, hq366, h⟩ := g_bind h
  refine m_mask [true, true, true, true, false, false, false] (ls' := [some (.inr (.inr (42, 0))), some (.inr (.inr (47, q1))), some (.inr (.inr (37, 0))), some (.inl 0), none, none, none]) rfl ?_
  refine p_X0_addProducts_2 hG N C0 hFr N _ _ _ _ hq366 ?_
  cases h
  exact m_vret C0 hFin (k_at kX0_addProducts_ok 51 rfl)
set_option maxRecDepth 100000 in
set_option maxHeartbeats 4000000 in
theorem p_J7_fill_53178_r46_5 {e : mEv} (hG : mGeo (mw0 e) lw_kept) (N : Nat) {f : mFx} (C0 : mCx f (mw0 e) sc0 cJ7_fill_53178 4 RJ7 lw_kept) (hFr : mFr f 0) : ∀ (n : Nat) (x1 : Int) (x2 : Int) (x3 : Int) (σ : mS) (σ' : mS), L_J7_fill_53178_r46_5 N n x1 x2 x3 σ = some σ' → mWW f (mw0 e) sc0 4 (20, [none, none, none, none], [], σ') → mWW f (mw0 e) sc0 4 (5, [some (.inr (.inr (46, 0))), some (.inl x1), some (.inl x2), some (.inl x3)], [], σ) := by
  intro n
  induction n with
  | zero =>
    intro x1 x2 x3 σ σ' h hK
    cases h
  | succ n IH =>
    intro x1 x2 x3 σ σ' h hK
    rw [L_J7_fill_53178_r46_5_s] at h
    refine m_blk C0 (pJ7_ok rfl) kJ7_fill_53178_ok 5 2 (7, [some (.inr (.inr (46, 0))), some (.inl x1), some (.inl x2), some (.inl x3)], [.inl x3, .inl x2], σ) (Ps := []) rfl trivial ?_
    refine b_ige C0 kJ7_fill_53178_ok 7 (off := 13) (tgt := 20) rfl (by decide) (fun hb370 => ?_) (fun hb370 => ?_)
    · replace h := g_pos hb370 h
      cases h
      refine m_mask [false, false, false, false] (ls' := [none, none, none, none]) rfl ?_
      exact hK
    · replace h := g_neg hb370 h
      obtain ⟨hc, h⟩ := g_if h
      refine m_blk C0 (pJ7_ok rfl) kJ7_fill_53178_ok 8 4 (14, [some (.inr (.inr (46, 0))), some (.inl x1), some (.inl x2), some (.inl x3)], [], (mup σ 46 0 x2.toNat x1)) (Ps := [0 ≤ x2 ∧ x2 < 28]) rfl (And.intro hc trivial) ?_
      refine m_blk C0 (pJ7_ok rfl) kJ7_fill_53178_ok 12 2 (5, [some (.inr (.inr (46, 0))), some (.inl x1), some (.inl (mw (x2 + 1))), some (.inl x3)], [], (mup σ 46 0 x2.toNat x1)) (Ps := []) rfl trivial ?_
      refine m_mask [true, true, true, true] (ls' := [some (.inr (.inr (46, 0))), some (.inl x1), some (.inl (mw (x2 + 1))), some (.inl x3)]) rfl ?_
      exact IH _ _ _ _ _ h hK
set_option maxRecDepth 100000 in
set_option maxHeartbeats 4000000 in
theorem t_J7_fill_53178_r46 {e : mEv} (hG : mGeo (mw0 e) lw_kept) (l : Launch) (N : Nat) {a1 : Int} {σ σ' : mS} (h : f_J7_fill_53178_r46 N a1 σ = some σ') : mMet l (mw0 e) lw_kept 0 yJ7_fill_53178 cJ7_fill_53178 4 none [.inr (.inr (46, 0)), .inl a1] σ none σ' := by
  refine mMet_intro (by decide +kernel) hG (Nat.le_of_ble_eq_true rfl) (fun f hl hR C0 hFin => ?_)
  subst hl
  have hFr := mFr_of hR hFin
  unfold f_J7_fill_53178_r46 at h
  show mWW f (mw0 e) sc0 4 (0, [some (.inr (.inr (46, 0))), some (.inl a1), none, none], [], σ)
  refine m_blk C0 (pJ7_ok rfl) kJ7_fill_53178_ok 0 5 (5, [some (.inr (.inr (46, 0))), some (.inl a1), some (.inl 0), some (.inl 28)], [], σ) (Ps := []) rfl trivial ?_
  obtain ⟨s371, hq372, h⟩ := g_bind h
  refine m_mask [true, true, true, true] (ls' := [some (.inr (.inr (46, 0))), some (.inl a1), some (.inl 0), some (.inl 28)]) rfl ?_
  refine p_J7_fill_53178_r46_5 hG N C0 hFr N _ _ _ _ _ hq372 ?_
  cases h
  exact m_vret C0 hFin (k_at kJ7_fill_53178_ok 14 rfl)
set_option maxRecDepth 100000 in
set_option maxHeartbeats 4000000 in
theorem p_X7_turnedCode_r7_5 {e : mEv} (hG : mGeo (mw0 e) lw_kept) (N : Nat) {f : mFx} (C0 : mCx f (mw0 e) sc0 cX7_turnedCode 6 RX7 lw_kept) (hFr : mFr f 1) : ∀ (n : Nat) (y1 : Nat) (x2 : Int) (x3 : Int) (x4 : Int) (σ : mS) (o3 : Int) (σ' : mS), L_X7_turnedCode_r7_5 N n y1 x2 x3 x4 σ = some (o3, σ') → mWW f (mw0 e) sc0 6 (60, [some (.inr (.inr (37, 0))), none, none, some (.inl o3), none, none], [], σ') → mWW f (mw0 e) sc0 6 (5, [some (.inr (.inr (37, 0))), some (.inr (.inr (7, y1))), some (.inl x2), some (.inl x3), some (.inl x4), none], [], σ) := by
  intro n
  induction n with
  | zero =>
    intro y1 x2 x3 x4 σ o3 σ' h hK
    cases h
  | succ n IH =>
    intro y1 x2 x3 x4 σ o3 σ' h hK
    rw [L_X7_turnedCode_r7_5_s] at h
    refine m_blk C0 (pX7_ok rfl) kX7_turnedCode_ok 4 2 (8, [some (.inr (.inr (37, 0))), some (.inr (.inr (7, y1))), some (.inl x2), some (.inl x3), some (.inl x4), none], [.inl 3, .inl x4], σ) (Ps := []) rfl trivial ?_
    refine b_ige C0 kX7_turnedCode_ok 6 (off := 52) (tgt := 60) rfl (by decide) (fun hb381 => ?_) (fun hb381 => ?_)
    · replace h := g_pos hb381 h
      cases h
      refine m_mask [true, false, false, true, false, false] (ls' := [some (.inr (.inr (37, 0))), none, none, some (.inl x3), none, none]) rfl ?_
      exact hK
    · replace h := g_neg hb381 h
      obtain ⟨hc, h⟩ := g_if h
      refine m_blk C0 (pX7_ok rfl) kX7_turnedCode_ok 7 12 (30, [some (.inr (.inr (37, 0))), some (.inr (.inr (7, y1))), some (.inl x2), some (.inl x3), some (.inl x4), some (.inl (σ 39 x4.toNat x2.toNat))], [.inl (σ 7 y1 x4.toNat), .inr (.inr (41, 0))], σ) (Ps := [0 ≤ x4 ∧ x4 < 3, 0 ≤ x2 ∧ x2 < 165, 0 ≤ x4 ∧ x4 < 3]) rfl (And.intro hc.1 (And.intro hc.2 (And.intro hc.1 trivial))) ?_
      obtain ⟨⟨v377, s376⟩, hq380, h⟩ := g_bind h
      refine c_SN (rest := [.inr (.inr (41, 0))]) C0 hFr (t_X11_indexOfCode hG f.2.1 N hq380) lk_X7_27 (k_at kX7_turnedCode_ok 19 rfl) rfl rfl rfl (by decide) (by decide) (Nat.le_of_ble_eq_true rfl) ?_
      obtain ⟨hc, h⟩ := g_if h
      refine m_blk C0 (pX7_ok rfl) kX7_turnedCode_ok 20 2 (36, [some (.inr (.inr (37, 0))), some (.inr (.inr (7, y1))), some (.inl x2), some (.inl x3), some (.inl x4), some (.inl (σ 39 x4.toNat x2.toNat))], [], (mup s376 41 0 v377.toNat (σ 39 x4.toNat x2.toNat))) (Ps := [0 ≤ v377 ∧ v377 < 3]) rfl (And.intro hc.1 trivial) ?_
      refine m_blk C0 (pX7_ok rfl) kX7_turnedCode_ok 22 3 (40, [some (.inr (.inr (37, 0))), some (.inr (.inr (7, y1))), some (.inl x2), some (.inl x3), some (.inl x4), some (.inl (σ 39 x4.toNat x2.toNat))], [.inl (s376 7 y1 x4.toNat)], (mup s376 41 0 v377.toNat (σ 39 x4.toNat x2.toNat))) (Ps := [0 ≤ x4 ∧ x4 < 3]) rfl (And.intro hc.2 trivial) ?_
      refine b_ge C0 kX7_turnedCode_ok 25 (off := 14) (tgt := 54) rfl (by decide) (fun hb379 => ?_) (fun hb379 => ?_)
      · replace h := g_pos hb379 h
        refine m_blk C0 (pX7_ok rfl) kX7_turnedCode_ok 34 2 (5, [some (.inr (.inr (37, 0))), some (.inr (.inr (7, y1))), some (.inl x2), some (.inl x3), some (.inl (mw (x4 + 1))), some (.inl (σ 39 x4.toNat x2.toNat))], [], (mup s376 41 0 v377.toNat (σ 39 x4.toNat x2.toNat))) (Ps := []) rfl trivial ?_
        refine m_mask [true, true, true, true, true, false] (ls' := [some (.inr (.inr (37, 0))), some (.inr (.inr (7, y1))), some (.inl x2), some (.inl x3), some (.inl (mw (x4 + 1))), none]) rfl ?_
        exact IH _ _ _ _ _ _ _ h hK
      · replace h := g_neg hb379 h
        refine m_blk C0 (pX7_ok rfl) kX7_turnedCode_ok 26 4 (48, [some (.inr (.inr (37, 0))), some (.inr (.inr (7, y1))), some (.inl x2), some (.inl x3), some (.inl x4), some (.inl (σ 39 x4.toNat x2.toNat))], [.inl 1, .inl (o_and (σ 39 x4.toNat x2.toNat) 1)], (mup s376 41 0 v377.toNat (σ 39 x4.toNat x2.toNat))) (Ps := []) rfl trivial ?_
        refine b_ine C0 kX7_turnedCode_ok 30 (off := 6) (tgt := 54) rfl (by decide) (fun hb378 => ?_) (fun hb378 => ?_)
        · replace h := g_neg hb378 h
          refine m_blk C0 (pX7_ok rfl) kX7_turnedCode_ok 34 2 (5, [some (.inr (.inr (37, 0))), some (.inr (.inr (7, y1))), some (.inl x2), some (.inl x3), some (.inl (mw (x4 + 1))), some (.inl (σ 39 x4.toNat x2.toNat))], [], (mup s376 41 0 v377.toNat (σ 39 x4.toNat x2.toNat))) (Ps := []) rfl trivial ?_
          refine m_mask [true, true, true, true, true, false] (ls' := [some (.inr (.inr (37, 0))), some (.inr (.inr (7, y1))), some (.inl x2), some (.inl x3), some (.inl (mw (x4 + 1))), none]) rfl ?_
          exact IH _ _ _ _ _ _ _ h hK
        · replace h := g_pos hb378 h
          refine m_blk C0 (pX7_ok rfl) kX7_turnedCode_ok 31 5 (5, [some (.inr (.inr (37, 0))), some (.inr (.inr (7, y1))), some (.inl x2), some (.inl (mw (-x3))), some (.inl (mw (x4 + 1))), some (.inl (σ 39 x4.toNat x2.toNat))], [], (mup s376 41 0 v377.toNat (σ 39 x4.toNat x2.toNat))) (Ps := []) rfl trivial ?_
          refine m_mask [true, true, true, true, true, false] (ls' := [some (.inr (.inr (37, 0))), some (.inr (.inr (7, y1))), some (.inl x2), some (.inl (mw (-x3))), some (.inl (mw (x4 + 1))), none]) rfl ?_
          exact IH _ _ _ _ _ _ _ h hK
set_option maxRecDepth 100000 in
set_option maxHeartbeats 4000000 in
theorem t_X7_turnedCode_r7 {e : mEv} (hG : mGeo (mw0 e) lw_kept) (l : Launch) (N : Nat) {q1 : Nat} {a2 : Int} {σ σ' : mS} {v : Int} (h : f_X7_turnedCode_r7 N q1 a2 σ = some (v, σ')) : mMet l (mw0 e) lw_kept 1 yX7_turnedCode cX7_turnedCode 6 (some .int) [.inr (.inr (37, 0)), .inr (.inr (7, q1)), .inl a2] σ (some (.inl v)) σ' := by
  refine mMet_intro (plainFor_of_name (by decide)) hG (Nat.le_of_ble_eq_true rfl) (fun f hl hR C0 hFin => ?_)
  subst hl
  have hFr := mFr_of hR hFin
  unfold f_X7_turnedCode_r7 at h
  show mWW f (mw0 e) sc0 6 (0, [some (.inr (.inr (37, 0))), some (.inr (.inr (7, q1))), some (.inl a2), none, none, none], [], σ)
  refine m_blk C0 (pX7_ok rfl) kX7_turnedCode_ok 0 4 (5, [some (.inr (.inr (37, 0))), some (.inr (.inr (7, q1))), some (.inl a2), some (.inl 1), some (.inl 0), none], [], σ) (Ps := []) rfl trivial ?_
  obtain ⟨⟨o383, s382⟩, hq387, h⟩ := g_bind h
  refine m_mask [true, true, true, true, true, false] (ls' := [some (.inr (.inr (37, 0))), some (.inr (.inr (7, q1))), some (.inl a2), some (.inl 1), some (.inl 0), none]) rfl ?_
  refine p_X7_turnedCode_r7_5 hG N C0 hFr N _ _ _ _ _ _ _ hq387 ?_
  refine m_blk C0 (pX7_ok rfl) kX7_turnedCode_ok 36 13 (79, [some (.inr (.inr (37, 0))), none, none, some (.inl o383), none, none], [.inl (s382 41 0 2), .inl (s382 41 0 1), .inl (s382 41 0 0), .inl o383], s382) (Ps := [0 ≤ (0 : Int) ∧ (0 : Int) < 3, 0 ≤ (1 : Int) ∧ (1 : Int) < 3, 0 ≤ (2 : Int) ∧ (2 : Int) < 3]) rfl (And.intro (by decide) (And.intro (by decide) (And.intro (by decide) trivial))) ?_
  obtain ⟨⟨v385, s384⟩, hq386, h⟩ := g_bind h
  refine c_S (rest := [.inl o383]) C0 hFr (t_X7_indexOf hG f.2.1 N hq386) lk_X7_23 (k_at kX7_turnedCode_ok 49 rfl) rfl rfl rfl (by decide) (by decide) (Nat.le_of_ble_eq_true rfl) ?_
  refine m_blk C0 (pX7_ok rfl) kX7_turnedCode_ok 50 3 (85, [some (.inr (.inr (37, 0))), none, none, some (.inl o383), none, none], [.inl (mw (o383 * (mw (v385 + 1))))], s384) (Ps := []) rfl trivial ?_
  cases h
  exact m_iret C0 hFin (k_at kX7_turnedCode_ok 53 rfl) (Or.inl rfl)
set_option maxRecDepth 100000 in
set_option maxHeartbeats 4000000 in
theorem t_X11_signedNumber {e : mEv} (hG : mGeo (mw0 e) lw_kept) (l : Launch) (N : Nat) {a0 : Int} {a1 : Int} {σ σ' : mS} {v : Int} (h : f_X11_signedNumber N a0 a1 σ = some (v, σ')) : mMet l (mw0 e) lw_kept 0 yX11_signedNumber cX11_signedNumber 2 (some .int) [.inl a0, .inl a1] σ (some (.inl v)) σ' := by
  refine mMet_intro (plainFor_of_name (by decide)) hG (Nat.le_of_ble_eq_true rfl) (fun f hl hR C0 hFin => ?_)
  subst hl
  have hFr := mFr_of hR hFin
  unfold f_X11_signedNumber at h
  show mWW f (mw0 e) sc0 2 (0, [some (.inl a0), some (.inl a1)], [], σ)
  refine m_blk C0 (pX11_ok rfl) kX11_signedNumber_ok 0 1 (1, [some (.inl a0), some (.inl a1)], [.inl a0], σ) (Ps := []) rfl trivial ?_
  refine b_ge C0 kX11_signedNumber_ok 1 (off := 15) (tgt := 16) rfl (by decide) (fun hb393 => ?_) (fun hb393 => ?_)
  · replace h := g_pos hb393 h
    refine m_blk C0 (pX11_ok rfl) kX11_signedNumber_ok 8 1 (17, [some (.inl a0), some (.inl a1)], [.inl a1], σ) (Ps := []) rfl trivial ?_
    cases h
    exact m_iret C0 hFin (k_at kX11_signedNumber_ok 9 rfl) (Or.inl rfl)
  · replace h := g_neg hb393 h
    refine m_blk C0 (pX11_ok rfl) kX11_signedNumber_ok 2 1 (5, [some (.inl a0), some (.inl a1)], [.inl a1], σ) (Ps := []) rfl trivial ?_
    refine b_eq C0 kX11_signedNumber_ok 3 (off := 11) (tgt := 16) rfl (by decide) (fun hb392 => ?_) (fun hb392 => ?_)
    · replace h := g_pos hb392 h
      refine m_blk C0 (pX11_ok rfl) kX11_signedNumber_ok 8 1 (17, [some (.inl a0), some (.inl a1)], [.inl a1], σ) (Ps := []) rfl trivial ?_
      cases h
      exact m_iret C0 hFin (k_at kX11_signedNumber_ok 9 rfl) (Or.inl rfl)
    · replace h := g_neg hb392 h
      refine m_blk C0 (pX11_ok rfl) kX11_signedNumber_ok 4 4 (17, [some (.inl a0), some (.inl a1)], [.inl (mw ((32003 : Int) - a1))], σ) (Ps := []) rfl trivial ?_
      cases h
      exact m_iret C0 hFin (k_at kX11_signedNumber_ok 9 rfl) (Or.inl rfl)
set_option maxRecDepth 100000 in
set_option maxHeartbeats 4000000 in
theorem p_X0_averagePowers_20 {e : mEv} (hG : mGeo (mw0 e) lw_kept) (N : Nat) {f : mFx} (C0 : mCx f (mw0 e) sc0 cX0_averagePowers 10 RX0 lw_kept) (hFr : mFr f 2) : ∀ (n : Nat) (y1 : Nat) (x2 : Int) (x5 : Int) (x6 : Int) (x7 : Int) (σ : mS) (σ' : mS), L_X0_averagePowers_20 N n y1 x2 x5 x6 x7 σ = some σ' → mWW f (mw0 e) sc0 10 (103, [none, none, none, none, none, none, none, none, none, none], [], σ') → mWW f (mw0 e) sc0 10 (20, [some (.inr (.inr (42, 0))), some (.inr (.inr (47, y1))), some (.inl x2), some (.inr (.inr (5, 0))), some (.inr (.inr (37, 0))), some (.inl x5), some (.inl x6), some (.inl x7), none, none], [], σ) := by
  intro n
  induction n with
  | zero =>
    intro y1 x2 x5 x6 x7 σ σ' h hK
    cases h
  | succ n IH =>
    intro y1 x2 x5 x6 x7 σ σ' h hK
    rw [L_X0_averagePowers_20_s] at h
    refine m_blk C0 (pX0_ok rfl) kX0_averagePowers_ok 10 3 (26, [some (.inr (.inr (42, 0))), some (.inr (.inr (47, y1))), some (.inl x2), some (.inr (.inr (5, 0))), some (.inr (.inr (37, 0))), some (.inl x5), some (.inl x6), some (.inl x7), none, none], [.inl (σ 5 0 0), .inl x7], σ) (Ps := []) rfl trivial ?_
    refine b_ige C0 kX0_averagePowers_ok 13 (off := 77) (tgt := 103) rfl (by decide) (fun hb401 => ?_) (fun hb401 => ?_)
    · replace h := g_pos hb401 h
      cases h
      refine m_mask [false, false, false, false, false, false, false, false, false, false] (ls' := [none, none, none, none, none, none, none, none, none, none]) rfl ?_
      exact hK
    · replace h := g_neg hb401 h
      obtain ⟨hc, h⟩ := g_if h
      refine m_blk C0 (pX0_ok rfl) kX0_averagePowers_ok 14 8 (42, [some (.inr (.inr (42, 0))), some (.inr (.inr (47, y1))), some (.inl x2), some (.inr (.inr (5, 0))), some (.inr (.inr (37, 0))), some (.inl x5), some (.inl x6), some (.inl x7), none, none], [.inl (mw (x6 + x2)), .inr (.inr (7, x7.toNat)), .inr (.inr (37, 0))], σ) (Ps := [0 ≤ x7 ∧ x7 < 48]) rfl (And.intro hc trivial) ?_
      obtain ⟨⟨v389, s388⟩, hq400, h⟩ := g_bind h
      refine c_V (rest := []) C0 hFr (t_X7_turnedCode_r7 hG f.2.1 N hq400) lk_X0_128 (k_at kX0_averagePowers_ok 22 rfl) rfl rfl rfl rfl ⟨_, _, rfl⟩ (by decide) (by decide) (Nat.le_of_ble_eq_true rfl) ?_
      refine m_blk C0 (pX0_ok rfl) kX0_averagePowers_ok 23 2 (49, [some (.inr (.inr (42, 0))), some (.inr (.inr (47, y1))), some (.inl x2), some (.inr (.inr (5, 0))), some (.inr (.inr (37, 0))), some (.inl x5), some (.inl x6), some (.inl x7), some (.inl v389), none], [.inl v389], s388) (Ps := []) rfl trivial ?_
      obtain ⟨⟨v391, s390⟩, hq399, h⟩ := g_bind h
      refine c_SN (rest := []) C0 hFr (t_X11_indexOfCode hG f.2.1 N hq399) lk_X0_132 (k_at kX0_averagePowers_ok 25 rfl) rfl rfl rfl (by decide) (by decide) (Nat.le_of_ble_eq_true rfl) ?_
      refine m_blk C0 (pX0_ok rfl) kX0_averagePowers_ok 26 4 (59, [some (.inr (.inr (42, 0))), some (.inr (.inr (47, y1))), some (.inl x2), some (.inr (.inr (5, 0))), some (.inr (.inr (37, 0))), some (.inl x5), some (.inl x6), some (.inl x7), some (.inl v389), some (.inl (mw (v391 - x6)))], [.inl (mw (v391 - x6))], s390) (Ps := []) rfl trivial ?_
      refine b_lt C0 kX0_averagePowers_ok 30 (off := 38) (tgt := 97) rfl (by decide) (fun hb398 => ?_) (fun hb398 => ?_)
      · replace h := g_pos hb398 h
        refine m_blk C0 (pX0_ok rfl) kX0_averagePowers_ok 49 2 (20, [some (.inr (.inr (42, 0))), some (.inr (.inr (47, y1))), some (.inl x2), some (.inr (.inr (5, 0))), some (.inr (.inr (37, 0))), some (.inl x5), some (.inl x6), some (.inl (mw (x7 + 1))), some (.inl v389), some (.inl (mw (v391 - x6)))], [], s390) (Ps := []) rfl trivial ?_
        refine m_mask [true, true, true, true, true, true, true, true, false, false] (ls' := [some (.inr (.inr (42, 0))), some (.inr (.inr (47, y1))), some (.inl x2), some (.inr (.inr (5, 0))), some (.inr (.inr (37, 0))), some (.inl x5), some (.inl x6), some (.inl (mw (x7 + 1))), none, none]) rfl ?_
        exact IH _ _ _ _ _ _ _ h hK
      · replace h := g_neg hb398 h
        refine m_blk C0 (pX0_ok rfl) kX0_averagePowers_ok 31 3 (68, [some (.inr (.inr (42, 0))), some (.inr (.inr (47, y1))), some (.inl x2), some (.inr (.inr (5, 0))), some (.inr (.inr (37, 0))), some (.inl x5), some (.inl x6), some (.inl x7), some (.inl v389), some (.inl (mw (v391 - x6)))], [.inl (s390 47 y1 1), .inl (mw (v391 - x6))], s390) (Ps := []) rfl trivial ?_
        refine b_ige C0 kX0_averagePowers_ok 34 (off := 29) (tgt := 97) rfl (by decide) (fun hb397 => ?_) (fun hb397 => ?_)
        · replace h := g_pos hb397 h
          refine m_blk C0 (pX0_ok rfl) kX0_averagePowers_ok 49 2 (20, [some (.inr (.inr (42, 0))), some (.inr (.inr (47, y1))), some (.inl x2), some (.inr (.inr (5, 0))), some (.inr (.inr (37, 0))), some (.inl x5), some (.inl x6), some (.inl (mw (x7 + 1))), some (.inl v389), some (.inl (mw (v391 - x6)))], [], s390) (Ps := []) rfl trivial ?_
          refine m_mask [true, true, true, true, true, true, true, true, false, false] (ls' := [some (.inr (.inr (42, 0))), some (.inr (.inr (47, y1))), some (.inl x2), some (.inr (.inr (5, 0))), some (.inr (.inr (37, 0))), some (.inl x5), some (.inl x6), some (.inl (mw (x7 + 1))), none, none]) rfl ?_
          exact IH _ _ _ _ _ _ _ h hK
        · replace h := g_neg hb397 h
          obtain ⟨hc, h⟩ := g_if h
          refine m_blk C0 (pX0_ok rfl) kX0_averagePowers_ok 35 9 (88, [some (.inr (.inr (42, 0))), some (.inr (.inr (47, y1))), some (.inl x2), some (.inr (.inr (5, 0))), some (.inr (.inr (37, 0))), some (.inl x5), some (.inl x6), some (.inl x7), some (.inl v389), some (.inl (mw (v391 - x6)))], [.inl x5, .inl v389, .inl (s390 46 0 ((mw (v391 - x6)).toNat)), .inl (mw (v391 - x6)), .inr (.inr (46, 0))], s390) (Ps := [0 ≤ (mw (v391 - x6)) ∧ (mw (v391 - x6)) < 28]) rfl (And.intro hc trivial) ?_
          obtain ⟨⟨v395, s394⟩, hq396, h⟩ := g_bind h
          refine c_SN (rest := [.inl (s390 46 0 ((mw (v391 - x6)).toNat)), .inl (mw (v391 - x6)), .inr (.inr (46, 0))]) C0 hFr (t_X11_signedNumber hG f.2.1 N hq396) lk_X0_135 (k_at kX0_averagePowers_ok 44 rfl) rfl rfl rfl (by decide) (by decide) (Nat.le_of_ble_eq_true rfl) ?_
          obtain ⟨hc, h⟩ := g_if h
          refine m_blk C0 (pX0_ok rfl) kX0_averagePowers_ok 45 4 (97, [some (.inr (.inr (42, 0))), some (.inr (.inr (47, y1))), some (.inl x2), some (.inr (.inr (5, 0))), some (.inr (.inr (37, 0))), some (.inl x5), some (.inl x6), some (.inl x7), some (.inl v389), some (.inl (mw (v391 - x6)))], [], (mup s394 46 0 ((mw (v391 - x6)).toNat) (o_rem (mw ((s390 46 0 ((mw (v391 - x6)).toNat)) + v395)) 32003))) (Ps := [¬ (32003 : Int) = 0, 0 ≤ (mw (v391 - x6)) ∧ (mw (v391 - x6)) < 28]) rfl (And.intro (by decide) (And.intro hc trivial)) ?_
          refine m_blk C0 (pX0_ok rfl) kX0_averagePowers_ok 49 2 (20, [some (.inr (.inr (42, 0))), some (.inr (.inr (47, y1))), some (.inl x2), some (.inr (.inr (5, 0))), some (.inr (.inr (37, 0))), some (.inl x5), some (.inl x6), some (.inl (mw (x7 + 1))), some (.inl v389), some (.inl (mw (v391 - x6)))], [], (mup s394 46 0 ((mw (v391 - x6)).toNat) (o_rem (mw ((s390 46 0 ((mw (v391 - x6)).toNat)) + v395)) 32003))) (Ps := []) rfl trivial ?_
          refine m_mask [true, true, true, true, true, true, true, true, false, false] (ls' := [some (.inr (.inr (42, 0))), some (.inr (.inr (47, y1))), some (.inl x2), some (.inr (.inr (5, 0))), some (.inr (.inr (37, 0))), some (.inl x5), some (.inl x6), some (.inl (mw (x7 + 1))), none, none]) rfl ?_
          exact IH _ _ _ _ _ _ _ h hK
set_option maxRecDepth 100000 in
set_option maxHeartbeats 4000000 in
theorem t_X0_averagePowers {e : mEv} (hG : mGeo (mw0 e) lw_kept) (l : Launch) (N : Nat) {q1 : Nat} {a2 : Int} {a5 : Int} {σ σ' : mS} (h : f_X0_averagePowers N q1 a2 a5 σ = some σ') : mMet l (mw0 e) lw_kept 2 yX0_averagePowers cX0_averagePowers 10 none [.inr (.inr (42, 0)), .inr (.inr (47, q1)), .inl a2, .inr (.inr (5, 0)), .inr (.inr (37, 0)), .inl a5] σ none σ' := by
  refine mMet_intro (plainFor_of_name (by decide)) hG (Nat.le_of_ble_eq_true rfl) (fun f hl hR C0 hFin => ?_)
  subst hl
  have hFr := mFr_of hR hFin
  unfold f_X0_averagePowers at h
  show mWW f (mw0 e) sc0 10 (0, [some (.inr (.inr (42, 0))), some (.inr (.inr (47, q1))), some (.inl a2), some (.inr (.inr (5, 0))), some (.inr (.inr (37, 0))), some (.inl a5), none, none, none, none], [], σ)
  refine m_blk C0 (pX0_ok rfl) kX0_averagePowers_ok 0 3 (5, [some (.inr (.inr (42, 0))), some (.inr (.inr (47, q1))), some (.inl a2), some (.inr (.inr (5, 0))), some (.inr (.inr (37, 0))), some (.inl a5), none, none, none, none], [.inl 0, .inr (.inr (46, 0))], σ) (Ps := []) rfl trivial ?_
  obtain ⟨s373, hq405, h⟩ := g_bind h
  refine c_S (rest := []) C0 hFr (t_J7_fill_53178_r46 hG f.2.1 N hq405) lk_X0_93 (k_at kX0_averagePowers_ok 3 rfl) rfl rfl rfl (by decide) (by decide) (Nat.le_of_ble_eq_true rfl) ?_
  refine m_blk C0 (pX0_ok rfl) kX0_averagePowers_ok 4 2 (12, [some (.inr (.inr (42, 0))), some (.inr (.inr (47, q1))), some (.inl a2), some (.inr (.inr (5, 0))), some (.inr (.inr (37, 0))), some (.inl a5), none, none, none, none], [.inl (s373 47 q1 0)], s373) (Ps := []) rfl trivial ?_
  obtain ⟨⟨v375, s374⟩, hq404, h⟩ := g_bind h
  refine c_S (rest := []) C0 hFr (t_X7_firstOf hG f.2.1 N hq404) lk_X0_99 (k_at kX0_averagePowers_ok 6 rfl) rfl rfl rfl (by decide) (by decide) (Nat.le_of_ble_eq_true rfl) ?_
  refine m_blk C0 (pX0_ok rfl) kX0_averagePowers_ok 7 3 (20, [some (.inr (.inr (42, 0))), some (.inr (.inr (47, q1))), some (.inl a2), some (.inr (.inr (5, 0))), some (.inr (.inr (37, 0))), some (.inl a5), some (.inl v375), some (.inl 0), none, none], [], s374) (Ps := []) rfl trivial ?_
  obtain ⟨s402, hq403, h⟩ := g_bind h
  refine m_mask [true, true, true, true, true, true, true, true, false, false] (ls' := [some (.inr (.inr (42, 0))), some (.inr (.inr (47, q1))), some (.inl a2), some (.inr (.inr (5, 0))), some (.inr (.inr (37, 0))), some (.inl a5), some (.inl v375), some (.inl 0), none, none]) rfl ?_
  refine p_X0_averagePowers_20 hG N C0 hFr N _ _ _ _ _ _ _ hq403 ?_
  cases h
  exact m_vret C0 hFin (k_at kX0_averagePowers_ok 51 rfl)
