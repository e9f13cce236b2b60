set_option maxRecDepth 100000 in
set_option maxHeartbeats 4000000 in
theorem p_X12_about_96 {e : mEv} (hG : mGeo (mw0 e) lw_kept) (N : Nat) {f : mFx} (C0 : mCx f (mw0 e) sc0 cX12_about 7 RX12 lw_kept) (hFr : mFr f 6) : ∀ (n : Nat) (x3 : Int) (x4 : Int) (x5 : Int) (x6 : Int) (σ : mS) (o4 : Int) (σ' : mS), L_X12_about_96 N n x3 x4 x5 x6 σ = some (o4, σ') → mWW f (mw0 e) sc0 7 (135, [some (.inr (.inr (71, 0))), none, none, some (.inl x3), some (.inl o4), some (.inl x5), none], [], σ') → mWW f (mw0 e) sc0 7 (96, [some (.inr (.inr (71, 0))), none, none, some (.inl x3), some (.inl x4), some (.inl x5), some (.inl x6)], [], σ) := by
  intro n
  induction n with
  | zero =>
    intro x3 x4 x5 x6 σ o4 σ' h hK
    cases h
  | succ n IH =>
    intro x3 x4 x5 x6 σ o4 σ' h hK
    rw [L_X12_about_96_s] at h
    refine m_blk C0 (pX12_ok rfl) kX12_about_ok 31 2 (99, [some (.inr (.inr (71, 0))), none, none, some (.inl x3), some (.inl x4), some (.inl x5), some (.inl x6)], [.inl 3, .inl x6], σ) (Ps := []) rfl trivial ?_
    refine b_ige C0 kX12_about_ok 33 (off := 36) (tgt := 135) rfl (by decide) (fun hb1388 => ?_) (fun hb1388 => ?_)
    · replace h := g_pos hb1388 h
      cases h
      refine m_mask [true, false, false, true, true, true, false] (ls' := [some (.inr (.inr (71, 0))), none, none, some (.inl x3), some (.inl x4), some (.inl x5), none]) rfl ?_
      exact hK
    · replace h := g_neg hb1388 h
      refine m_blk C0 (pX12_ok rfl) kX12_about_ok 34 1 (104, [some (.inr (.inr (71, 0))), none, none, some (.inl x3), some (.inl x4), some (.inl x5), some (.inl x6)], [.inl x4], σ) (Ps := []) rfl trivial ?_
      refine b_ne C0 kX12_about_ok 35 (off := 18) (tgt := 122) rfl (by decide) (fun hb1387 => ?_) (fun hb1387 => ?_)
      · replace h := g_neg hb1387 h
        refine m_blk C0 (pX12_ok rfl) kX12_about_ok 45 2 (127, [some (.inr (.inr (71, 0))), none, none, some (.inl x3), some (.inl x4), some (.inl x5), some (.inl x6)], [.inl 1], σ) (Ps := []) rfl trivial ?_
        refine m_blk C0 (pX12_ok rfl) kX12_about_ok 48 3 (96, [some (.inr (.inr (71, 0))), none, none, some (.inl x3), some (.inl 1), some (.inl x5), some (.inl (mw (x6 + 1)))], [], σ) (Ps := []) rfl trivial ?_
        refine m_mask [true, false, false, true, true, true, true] (ls' := [some (.inr (.inr (71, 0))), none, none, some (.inl x3), some (.inl 1), some (.inl x5), some (.inl (mw (x6 + 1)))]) rfl ?_
        exact IH _ _ _ _ _ _ _ h hK
      · replace h := g_pos hb1387 h
        obtain ⟨hc, h⟩ := g_if h
        refine m_blk C0 (pX12_ok rfl) kX12_about_ok 36 8 (119, [some (.inr (.inr (71, 0))), none, none, some (.inl x3), some (.inl x4), some (.inl x5), some (.inl x6)], [.inl (σ 74 0 ((mw ((mw ((3 : Int) * x5)) + x6)).toNat))], σ) (Ps := [0 ≤ (mw ((mw ((3 : Int) * x5)) + x6)) ∧ (mw ((mw ((3 : Int) * x5)) + x6)) < 144]) rfl (And.intro hc trivial) ?_
        refine b_ge C0 kX12_about_ok 44 (off := 7) (tgt := 126) rfl (by decide) (fun hb1386 => ?_) (fun hb1386 => ?_)
        · replace h := g_pos hb1386 h
          refine m_blk C0 (pX12_ok rfl) kX12_about_ok 47 4 (96, [some (.inr (.inr (71, 0))), none, none, some (.inl x3), some (.inl 0), some (.inl x5), some (.inl (mw (x6 + 1)))], [], σ) (Ps := []) rfl trivial ?_
          refine m_mask [true, false, false, true, true, true, true] (ls' := [some (.inr (.inr (71, 0))), none, none, some (.inl x3), some (.inl 0), some (.inl x5), some (.inl (mw (x6 + 1)))]) rfl ?_
          exact IH _ _ _ _ _ _ _ h hK
        · replace h := g_neg hb1386 h
          refine m_blk C0 (pX12_ok rfl) kX12_about_ok 45 2 (127, [some (.inr (.inr (71, 0))), none, none, some (.inl x3), some (.inl x4), some (.inl x5), some (.inl x6)], [.inl 1], σ) (Ps := []) rfl trivial ?_
          refine m_blk C0 (pX12_ok rfl) kX12_about_ok 48 3 (96, [some (.inr (.inr (71, 0))), none, none, some (.inl x3), some (.inl 1), some (.inl x5), some (.inl (mw (x6 + 1)))], [], σ) (Ps := []) rfl trivial ?_
          refine m_mask [true, false, false, true, true, true, true] (ls' := [some (.inr (.inr (71, 0))), none, none, some (.inl x3), some (.inl 1), some (.inl x5), some (.inl (mw (x6 + 1)))]) rfl ?_
          exact IH _ _ _ _ _ _ _ h hK
set_option maxRecDepth 100000 in
set_option maxHeartbeats 4000000 in
theorem p_X12_about_61 {e : mEv} (hG : mGeo (mw0 e) lw_kept) (N : Nat) {f : mFx} (C0 : mCx f (mw0 e) sc0 cX12_about 7 RX12 lw_kept) (hFr : mFr f 6) : ∀ (n : Nat) (x3 : Int) (x4 : Int) (x5 : Int) (σ : mS) (o3 : Int) (o4 : Int) (σ' : mS), L_X12_about_61 N n x3 x4 x5 σ = some (o3, o4, σ') → mWW f (mw0 e) sc0 7 (141, [none, none, none, some (.inl o3), some (.inl o4), none, none], [], σ') → mWW f (mw0 e) sc0 7 (61, [some (.inr (.inr (71, 0))), none, none, some (.inl x3), some (.inl x4), some (.inl x5), none], [], σ) := by
  intro n
  induction n with
  | zero =>
    intro x3 x4 x5 σ o3 o4 σ' h hK
    cases h
  | succ n IH =>
    intro x3 x4 x5 σ o3 o4 σ' h hK
    rw [L_X12_about_61_s] at h
    refine m_blk C0 (pX12_ok rfl) kX12_about_ok 13 3 (67, [some (.inr (.inr (71, 0))), none, none, some (.inl x3), some (.inl x4), some (.inl x5), none], [.inl (σ 71 0 6), .inl x5], σ) (Ps := []) rfl trivial ?_
    refine b_ige C0 kX12_about_ok 16 (off := 74) (tgt := 141) rfl (by decide) (fun hb1410 => ?_) (fun hb1410 => ?_)
    · replace h := g_pos hb1410 h
      cases h
      refine m_mask [false, false, false, true, true, false, false] (ls' := [none, none, none, some (.inl x3), some (.inl x4), none, none]) rfl ?_
      exact hK
    · replace h := g_neg hb1410 h
      refine m_blk C0 (pX12_ok rfl) kX12_about_ok 17 1 (71, [some (.inr (.inr (71, 0))), none, none, some (.inl x3), some (.inl x4), some (.inl x5), none], [.inl x3], σ) (Ps := []) rfl trivial ?_
      refine b_ne C0 kX12_about_ok 18 (off := 16) (tgt := 87) rfl (by decide) (fun hb1409 => ?_) (fun hb1409 => ?_)
      · replace h := g_neg hb1409 h
        refine m_blk C0 (pX12_ok rfl) kX12_about_ok 25 2 (92, [some (.inr (.inr (71, 0))), none, none, some (.inl x3), some (.inl x4), some (.inl x5), none], [.inl 1], σ) (Ps := []) rfl trivial ?_
        refine m_blk C0 (pX12_ok rfl) kX12_about_ok 28 3 (96, [some (.inr (.inr (71, 0))), none, none, some (.inl 1), some (.inl x4), some (.inl x5), some (.inl 0)], [], σ) (Ps := []) rfl trivial ?_
        obtain ⟨⟨o1390, s1389⟩, hq1391, h⟩ := g_bind h
        refine m_mask [true, false, false, true, true, true, true] (ls' := [some (.inr (.inr (71, 0))), none, none, some (.inl 1), some (.inl x4), some (.inl x5), some (.inl 0)]) rfl ?_
        refine p_X12_about_96 hG N C0 hFr N _ _ _ _ _ _ _ hq1391 ?_
        refine m_blk C0 (pX12_ok rfl) kX12_about_ok 51 2 (61, [some (.inr (.inr (71, 0))), none, none, some (.inl 1), some (.inl o1390), some (.inl (mw (x5 + 1))), none], [], s1389) (Ps := []) rfl trivial ?_
        refine m_mask [true, false, false, true, true, true, false] (ls' := [some (.inr (.inr (71, 0))), none, none, some (.inl 1), some (.inl o1390), some (.inl (mw (x5 + 1))), none]) rfl ?_
        exact IH _ _ _ _ _ _ _ h hK
      · replace h := g_pos hb1409 h
        refine m_blk C0 (pX12_ok rfl) kX12_about_ok 19 2 (77, [some (.inr (.inr (71, 0))), none, none, some (.inl x3), some (.inl x4), some (.inl x5), none], [.inl x5, .inr (.inr (71, 0))], σ) (Ps := []) rfl trivial ?_
        obtain ⟨⟨v1400, s1399⟩, hq1408, h⟩ := g_bind h
        refine c_V (rest := []) C0 hFr (t_X12_order hG f.2.1 N hq1408) lk_X12_171 (k_at kX12_about_ok 21 rfl) rfl rfl rfl rfl ⟨_, _, rfl⟩ (by decide) (by decide) (Nat.le_of_ble_eq_true rfl) ?_
        refine m_blk C0 (pX12_ok rfl) kX12_about_ok 22 2 (84, [some (.inr (.inr (71, 0))), none, none, some (.inl x3), some (.inl x4), some (.inl x5), none], [.inl (s1399 71 0 6), .inl v1400], s1399) (Ps := []) rfl trivial ?_
        refine b_ine C0 kX12_about_ok 24 (off := 7) (tgt := 91) rfl (by decide) (fun hb1407 => ?_) (fun hb1407 => ?_)
        · replace h := g_neg hb1407 h
          refine m_blk C0 (pX12_ok rfl) kX12_about_ok 27 4 (96, [some (.inr (.inr (71, 0))), none, none, some (.inl 0), some (.inl x4), some (.inl x5), some (.inl 0)], [], s1399) (Ps := []) rfl trivial ?_
          obtain ⟨⟨o1402, s1401⟩, hq1403, h⟩ := g_bind h
          refine m_mask [true, false, false, true, true, true, true] (ls' := [some (.inr (.inr (71, 0))), none, none, some (.inl 0), some (.inl x4), some (.inl x5), some (.inl 0)]) rfl ?_
          refine p_X12_about_96 hG N C0 hFr N _ _ _ _ _ _ _ hq1403 ?_
          refine m_blk C0 (pX12_ok rfl) kX12_about_ok 51 2 (61, [some (.inr (.inr (71, 0))), none, none, some (.inl 0), some (.inl o1402), some (.inl (mw (x5 + 1))), none], [], s1401) (Ps := []) rfl trivial ?_
          refine m_mask [true, false, false, true, true, true, false] (ls' := [some (.inr (.inr (71, 0))), none, none, some (.inl 0), some (.inl o1402), some (.inl (mw (x5 + 1))), none]) rfl ?_
          exact IH _ _ _ _ _ _ _ h hK
        · replace h := g_pos hb1407 h
          refine m_blk C0 (pX12_ok rfl) kX12_about_ok 25 2 (92, [some (.inr (.inr (71, 0))), none, none, some (.inl x3), some (.inl x4), some (.inl x5), none], [.inl 1], s1399) (Ps := []) rfl trivial ?_
          refine m_blk C0 (pX12_ok rfl) kX12_about_ok 28 3 (96, [some (.inr (.inr (71, 0))), none, none, some (.inl 1), some (.inl x4), some (.inl x5), some (.inl 0)], [], s1399) (Ps := []) rfl trivial ?_
          obtain ⟨⟨o1405, s1404⟩, hq1406, h⟩ := g_bind h
          refine m_mask [true, false, false, true, true, true, true] (ls' := [some (.inr (.inr (71, 0))), none, none, some (.inl 1), some (.inl x4), some (.inl x5), some (.inl 0)]) rfl ?_
          refine p_X12_about_96 hG N C0 hFr N _ _ _ _ _ _ _ hq1406 ?_
          refine m_blk C0 (pX12_ok rfl) kX12_about_ok 51 2 (61, [some (.inr (.inr (71, 0))), none, none, some (.inl 1), some (.inl o1405), some (.inl (mw (x5 + 1))), none], [], s1404) (Ps := []) rfl trivial ?_
          refine m_mask [true, false, false, true, true, true, false] (ls' := [some (.inr (.inr (71, 0))), none, none, some (.inl 1), some (.inl o1405), some (.inl (mw (x5 + 1))), none]) rfl ?_
          exact IH _ _ _ _ _ _ _ h hK
set_option maxRecDepth 100000 in
set_option maxHeartbeats 4000000 in
theorem p_X12_about_172 {e : mEv} (hG : mGeo (mw0 e) lw_kept) (N : Nat) {f : mFx} (C0 : mCx f (mw0 e) sc0 cX12_about 7 RX12 lw_kept) (hFr : mFr f 6) : ∀ (n : Nat) (x2 : Int) (x3 : Int) (σ : mS) (o2 : Int) (σ' : mS), L_X12_about_172 N n x2 x3 σ = some (o2, σ') → mWW f (mw0 e) sc0 7 (202, [none, none, some (.inl o2), none, none, none, none], [], σ') → mWW f (mw0 e) sc0 7 (172, [some (.inr (.inr (71, 0))), none, some (.inl x2), some (.inl x3), none, none, none], [], σ) := by
  intro n
  induction n with
  | zero =>
    intro x2 x3 σ o2 σ' h hK
    cases h
  | succ n IH =>
    intro x2 x3 σ o2 σ' h hK
    rw [L_X12_about_172_s] at h
    refine m_blk C0 (pX12_ok rfl) kX12_about_ok 71 3 (177, [some (.inr (.inr (71, 0))), none, some (.inl x2), some (.inl x3), none, none, none], [.inl (σ 71 0 6), .inl x3], σ) (Ps := []) rfl trivial ?_
    refine b_ige C0 kX12_about_ok 74 (off := 25) (tgt := 202) rfl (by decide) (fun hb1476 => ?_) (fun hb1476 => ?_)
    · replace h := g_pos hb1476 h
      cases h
      refine m_mask [false, false, true, false, false, false, false] (ls' := [none, none, some (.inl x2), none, none, none, none]) rfl ?_
      exact hK
    · replace h := g_neg hb1476 h
      refine m_blk C0 (pX12_ok rfl) kX12_about_ok 75 3 (183, [some (.inr (.inr (71, 0))), none, some (.inl x2), some (.inl x3), none, none, none], [.inl x3, .inr (.inr (71, 0)), .inl x2], σ) (Ps := []) rfl trivial ?_
      obtain ⟨⟨v1473, s1472⟩, hq1475, h⟩ := g_bind h
      refine c_V (rest := [.inl x2]) C0 hFr (t_X12_isMirror hG f.2.1 N hq1475) lk_X12_168 (k_at kX12_about_ok 78 rfl) rfl rfl rfl rfl ⟨_, _, rfl⟩ (by decide) (by decide) (Nat.le_of_ble_eq_true rfl) ?_
      refine b_eq C0 kX12_about_ok 79 (off := 7) (tgt := 193) rfl (by decide) (fun hb1474 => ?_) (fun hb1474 => ?_)
      · replace h := g_pos hb1474 h
        refine m_blk C0 (pX12_ok rfl) kX12_about_ok 82 5 (172, [some (.inr (.inr (71, 0))), none, some (.inl (mw (x2 + 0))), some (.inl (mw (x3 + 1))), none, none, none], [], s1472) (Ps := []) rfl trivial ?_
        refine m_mask [true, false, true, true, false, false, false] (ls' := [some (.inr (.inr (71, 0))), none, some (.inl (mw (x2 + 0))), some (.inl (mw (x3 + 1))), none, none, none]) rfl ?_
        exact IH _ _ _ _ _ h hK
      · replace h := g_neg hb1474 h
        refine m_blk C0 (pX12_ok rfl) kX12_about_ok 80 2 (194, [some (.inr (.inr (71, 0))), none, some (.inl x2), some (.inl x3), none, none, none], [.inl 1, .inl x2], s1472) (Ps := []) rfl trivial ?_
        refine m_blk C0 (pX12_ok rfl) kX12_about_ok 83 4 (172, [some (.inr (.inr (71, 0))), none, some (.inl (mw (x2 + 1))), some (.inl (mw (x3 + 1))), none, none, none], [], s1472) (Ps := []) rfl trivial ?_
        refine m_mask [true, false, true, true, false, false, false] (ls' := [some (.inr (.inr (71, 0))), none, some (.inl (mw (x2 + 1))), some (.inl (mw (x3 + 1))), none, none, none]) rfl ?_
        exact IH _ _ _ _ _ h hK
set_option maxRecDepth 100000 in
set_option maxHeartbeats 4000000 in
theorem p_X12_about_226 {e : mEv} (hG : mGeo (mw0 e) lw_kept) (N : Nat) {f : mFx} (C0 : mCx f (mw0 e) sc0 cX12_about 7 RX12 lw_kept) (hFr : mFr f 6) : ∀ (n : Nat) (x2 : Int) (x3 : Int) (σ : mS) (o2 : Int) (σ' : mS), L_X12_about_226 N n x2 x3 σ = some (o2, σ') → mWW f (mw0 e) sc0 7 (249, [none, none, some (.inl o2), none, none, none, none], [], σ') → mWW f (mw0 e) sc0 7 (226, [some (.inr (.inr (71, 0))), none, some (.inl x2), some (.inl x3), none, none, none], [], σ) := by
  intro n
  induction n with
  | zero =>
    intro x2 x3 σ o2 σ' h hK
    cases h
  | succ n IH =>
    intro x2 x3 σ o2 σ' h hK
    rw [L_X12_about_226_s] at h
    refine m_blk C0 (pX12_ok rfl) kX12_about_ok 103 3 (231, [some (.inr (.inr (71, 0))), none, some (.inl x2), some (.inl x3), none, none, none], [.inl (σ 71 0 19), .inl x3], σ) (Ps := []) rfl trivial ?_
    refine b_ige C0 kX12_about_ok 106 (off := 18) (tgt := 249) rfl (by decide) (fun hb1517 => ?_) (fun hb1517 => ?_)
    · replace h := g_pos hb1517 h
      cases h
      refine m_mask [false, false, true, false, false, false, false] (ls' := [none, none, some (.inl x2), none, none, none, none]) rfl ?_
      exact hK
    · replace h := g_neg hb1517 h
      obtain ⟨hc, h⟩ := g_if h
      refine m_blk C0 (pX12_ok rfl) kX12_about_ok 107 9 (226, [some (.inr (.inr (71, 0))), none, some (.inl (mw (x2 * (σ 83 0 x3.toNat)))), some (.inl (mw (x3 + 1))), none, none, none], [], σ) (Ps := [0 ≤ x3 ∧ x3 < 40]) rfl (And.intro hc trivial) ?_
      refine m_mask [true, false, true, true, false, false, false] (ls' := [some (.inr (.inr (71, 0))), none, some (.inl (mw (x2 * (σ 83 0 x3.toNat)))), some (.inl (mw (x3 + 1))), none, none, none]) rfl ?_
      exact IH _ _ _ _ _ h hK
set_option maxRecDepth 100000 in
set_option maxHeartbeats 4000000 in
theorem t_X12_about {e : mEv} (hG : mGeo (mw0 e) lw_kept) (l : Launch) (N : Nat) {a1 : Int} {σ σ' : mS} {v : Int} (h : f_X12_about N a1 σ = some (v, σ')) : mMet l (mw0 e) lw_kept 6 yX12_about cX12_about 7 (some .int) [.inr (.inr (71, 0)), .inl a1] σ (some (.inl v)) σ' := by
  refine mMet_intro (plainFor_of_name (by decide)) hG (Nat.le_of_ble_eq_true rfl) (fun f hl hR C0 hFin => ?_)
  subst hl
  have hFr := mFr_of hR hFin
  unfold f_X12_about at h
  show mWW f (mw0 e) sc0 7 (0, [some (.inr (.inr (71, 0))), some (.inl a1), none, none, none, none, none], [], σ)
  refine m_blk C0 (pX12_ok rfl) kX12_about_ok 0 3 (3, [some (.inr (.inr (71, 0))), some (.inl a1), some (.inl 0), none, none, none, none], [.inl a1], σ) (Ps := []) rfl trivial ?_
  refine b_tab C0 kX12_about_ok 3 (tgt := 251) rfl (fun n hn1 hn2 => ?_) (by decide) (fun hn => ?_)
  · rcases (show n = 0 ∨ n = 1 ∨ n = 2 ∨ n = 3 ∨ n = 4 ∨ n = 5 ∨ n = 6 ∨ n = 7 by omega) with rfl | rfl | rfl | rfl | rfl | rfl | rfl | rfl
    · have hb1521 : a1 = 0 := hn1
      replace h := g_pos hb1521 h
      refine ⟨_, 48, rfl, by decide, ?_⟩
      refine m_blk C0 (pX12_ok rfl) kX12_about_ok 4 2 (52, [some (.inr (.inr (71, 0))), some (.inl a1), some (.inl 0), none, none, none, none], [.inl (σ 71 0 6)], σ) (Ps := []) rfl trivial ?_
      cases h
      exact m_iret C0 hFin (k_at kX12_about_ok 6 rfl) (Or.inl rfl)
    · have hb1521 : a1 = 1 := hn1
      replace h := g_neg (show ¬ a1 = 0 by omega) h
      replace h := g_pos hb1521 h
      refine ⟨_, 53, rfl, by decide, ?_⟩
      refine m_blk C0 (pX12_ok rfl) kX12_about_ok 7 6 (61, [some (.inr (.inr (71, 0))), some (.inl a1), some (.inl 0), some (.inl 0), some (.inl 0), some (.inl 0), none], [], σ) (Ps := []) rfl trivial ?_
      obtain ⟨⟨o1412, o1413, s1411⟩, hq1416, h⟩ := g_bind h
      refine m_mask [true, false, false, true, true, true, false] (ls' := [some (.inr (.inr (71, 0))), none, none, some (.inl 0), some (.inl 0), some (.inl 0), none]) rfl ?_
      refine p_X12_about_61 hG N C0 hFr N _ _ _ _ _ _ _ hq1416 ?_
      refine m_blk C0 (pX12_ok rfl) kX12_about_ok 53 1 (142, [none, none, none, some (.inl o1412), some (.inl o1413), none, none], [.inl o1412], s1411) (Ps := []) rfl trivial ?_
      refine b_eq C0 kX12_about_ok 54 (off := 7) (tgt := 149) rfl (by decide) (fun hb1415 => ?_) (fun hb1415 => ?_)
      · replace h := g_pos hb1415 h
        refine m_blk C0 (pX12_ok rfl) kX12_about_ok 57 1 (151, [none, none, none, some (.inl o1412), some (.inl o1413), none, none], [.inl o1413], s1411) (Ps := []) rfl trivial ?_
        refine b_eq C0 kX12_about_ok 58 (off := 7) (tgt := 158) rfl (by decide) (fun hb1414 => ?_) (fun hb1414 => ?_)
        · replace h := g_pos hb1414 h
          refine m_blk C0 (pX12_ok rfl) kX12_about_ok 61 1 (159, [none, none, none, some (.inl o1412), some (.inl o1413), none, none], [.inl 1], s1411) (Ps := []) rfl trivial ?_
          cases h
          exact m_iret C0 hFin (k_at kX12_about_ok 62 rfl) (Or.inl rfl)
        · replace h := g_neg hb1414 h
          refine m_blk C0 (pX12_ok rfl) kX12_about_ok 59 2 (159, [none, none, none, some (.inl o1412), some (.inl o1413), none, none], [.inl 2], s1411) (Ps := []) rfl trivial ?_
          cases h
          exact m_iret C0 hFin (k_at kX12_about_ok 62 rfl) (Or.inl rfl)
      · replace h := g_neg hb1415 h
        refine m_blk C0 (pX12_ok rfl) kX12_about_ok 55 2 (159, [none, none, none, some (.inl o1412), some (.inl o1413), none, none], [.inl 0], s1411) (Ps := []) rfl trivial ?_
        cases h
        exact m_iret C0 hFin (k_at kX12_about_ok 62 rfl) (Or.inl rfl)
    · have hb1521 : a1 = 2 := hn1
      replace h := g_neg (show ¬ a1 = 0 by omega) h
      replace h := g_neg (show ¬ a1 = 1 by omega) h
      replace h := g_pos hb1521 h
      refine ⟨_, 160, rfl, by decide, ?_⟩
      refine m_blk C0 (pX12_ok rfl) kX12_about_ok 63 2 (164, [some (.inr (.inr (71, 0))), some (.inl a1), some (.inl 0), none, none, none, none], [.inl (σ 71 0 10)], σ) (Ps := []) rfl trivial ?_
      cases h
      exact m_iret C0 hFin (k_at kX12_about_ok 65 rfl) (Or.inl rfl)
    · have hb1521 : a1 = 3 := hn1
      replace h := g_neg (show ¬ a1 = 0 by omega) h
      replace h := g_neg (show ¬ a1 = 1 by omega) h
      replace h := g_neg (show ¬ a1 = 2 by omega) h
      replace h := g_pos hb1521 h
      refine ⟨_, 165, rfl, by decide, ?_⟩
      refine m_blk C0 (pX12_ok rfl) kX12_about_ok 66 2 (169, [some (.inr (.inr (71, 0))), some (.inl a1), some (.inl 0), none, none, none, none], [.inl (σ 71 0 11)], σ) (Ps := []) rfl trivial ?_
      cases h
      exact m_iret C0 hFin (k_at kX12_about_ok 68 rfl) (Or.inl rfl)
    · have hb1521 : a1 = 4 := hn1
      replace h := g_neg (show ¬ a1 = 0 by omega) h
      replace h := g_neg (show ¬ a1 = 1 by omega) h
      replace h := g_neg (show ¬ a1 = 2 by omega) h
      replace h := g_neg (show ¬ a1 = 3 by omega) h
      replace h := g_pos hb1521 h
      refine ⟨_, 170, rfl, by decide, ?_⟩
      refine m_blk C0 (pX12_ok rfl) kX12_about_ok 69 2 (172, [some (.inr (.inr (71, 0))), some (.inl a1), some (.inl 0), some (.inl 0), none, none, none], [], σ) (Ps := []) rfl trivial ?_
      obtain ⟨⟨o1478, s1477⟩, hq1479, h⟩ := g_bind h
      refine m_mask [true, false, true, true, false, false, false] (ls' := [some (.inr (.inr (71, 0))), none, some (.inl 0), some (.inl 0), none, none, none]) rfl ?_
      refine p_X12_about_172 hG N C0 hFr N _ _ _ _ _ hq1479 ?_
      refine m_blk C0 (pX12_ok rfl) kX12_about_ok 87 1 (203, [none, none, some (.inl o1478), none, none, none, none], [.inl o1478], s1477) (Ps := []) rfl trivial ?_
      cases h
      exact m_iret C0 hFin (k_at kX12_about_ok 88 rfl) (Or.inl rfl)
    · have hb1521 : a1 = 5 := hn1
      replace h := g_neg (show ¬ a1 = 0 by omega) h
      replace h := g_neg (show ¬ a1 = 1 by omega) h
      replace h := g_neg (show ¬ a1 = 2 by omega) h
      replace h := g_neg (show ¬ a1 = 3 by omega) h
      replace h := g_neg (show ¬ a1 = 4 by omega) h
      replace h := g_pos hb1521 h
      refine ⟨_, 204, rfl, by decide, ?_⟩
      refine m_blk C0 (pX12_ok rfl) kX12_about_ok 89 1 (205, [some (.inr (.inr (71, 0))), some (.inl a1), some (.inl 0), none, none, none, none], [.inr (.inr (71, 0))], σ) (Ps := []) rfl trivial ?_
      obtain ⟨⟨v1514, s1513⟩, hq1516, h⟩ := g_bind h
      refine c_V (rest := []) C0 hFr (t_X12_byMirrors hG f.2.1 N hq1516) lk_X12_174 (k_at kX12_about_ok 90 rfl) rfl rfl rfl rfl ⟨_, _, rfl⟩ (by decide) (by decide) (Nat.le_of_ble_eq_true rfl) ?_
      refine b_eq C0 kX12_about_ok 91 (off := 7) (tgt := 215) rfl (by decide) (fun hb1515 => ?_) (fun hb1515 => ?_)
      · replace h := g_pos hb1515 h
        refine m_blk C0 (pX12_ok rfl) kX12_about_ok 94 1 (216, [some (.inr (.inr (71, 0))), some (.inl a1), some (.inl 0), none, none, none, none], [.inl 0], s1513) (Ps := []) rfl trivial ?_
        cases h
        exact m_iret C0 hFin (k_at kX12_about_ok 95 rfl) (Or.inl rfl)
      · replace h := g_neg hb1515 h
        refine m_blk C0 (pX12_ok rfl) kX12_about_ok 92 2 (216, [some (.inr (.inr (71, 0))), some (.inl a1), some (.inl 0), none, none, none, none], [.inl 1], s1513) (Ps := []) rfl trivial ?_
        cases h
        exact m_iret C0 hFin (k_at kX12_about_ok 95 rfl) (Or.inl rfl)
    · have hb1521 : a1 = 6 := hn1
      replace h := g_neg (show ¬ a1 = 0 by omega) h
      replace h := g_neg (show ¬ a1 = 1 by omega) h
      replace h := g_neg (show ¬ a1 = 2 by omega) h
      replace h := g_neg (show ¬ a1 = 3 by omega) h
      replace h := g_neg (show ¬ a1 = 4 by omega) h
      replace h := g_neg (show ¬ a1 = 5 by omega) h
      replace h := g_pos hb1521 h
      refine ⟨_, 217, rfl, by decide, ?_⟩
      refine m_blk C0 (pX12_ok rfl) kX12_about_ok 96 2 (221, [some (.inr (.inr (71, 0))), some (.inl a1), some (.inl 0), none, none, none, none], [.inl (σ 71 0 19)], σ) (Ps := []) rfl trivial ?_
      cases h
      exact m_iret C0 hFin (k_at kX12_about_ok 98 rfl) (Or.inl rfl)
    · have hb1521 : a1 = 7 := hn1
      replace h := g_neg (show ¬ a1 = 0 by omega) h
      replace h := g_neg (show ¬ a1 = 1 by omega) h
      replace h := g_neg (show ¬ a1 = 2 by omega) h
      replace h := g_neg (show ¬ a1 = 3 by omega) h
      replace h := g_neg (show ¬ a1 = 4 by omega) h
      replace h := g_neg (show ¬ a1 = 5 by omega) h
      replace h := g_neg (show ¬ a1 = 6 by omega) h
      replace h := g_pos hb1521 h
      refine ⟨_, 222, rfl, by decide, ?_⟩
      refine m_blk C0 (pX12_ok rfl) kX12_about_ok 99 4 (226, [some (.inr (.inr (71, 0))), some (.inl a1), some (.inl 1), some (.inl 0), none, none, none], [], σ) (Ps := []) rfl trivial ?_
      obtain ⟨⟨o1519, s1518⟩, hq1520, h⟩ := g_bind h
      refine m_mask [true, false, true, true, false, false, false] (ls' := [some (.inr (.inr (71, 0))), none, some (.inl 1), some (.inl 0), none, none, none]) rfl ?_
      refine p_X12_about_226 hG N C0 hFr N _ _ _ _ _ hq1520 ?_
      refine m_blk C0 (pX12_ok rfl) kX12_about_ok 116 1 (250, [none, none, some (.inl o1519), none, none, none, none], [.inl o1519], s1518) (Ps := []) rfl trivial ?_
      cases h
      exact m_iret C0 hFin (k_at kX12_about_ok 117 rfl) (Or.inl rfl)
  · have hn0 := hn
    replace h := g_neg (show ¬ a1 = 0 by omega) h
    replace h := g_neg (show ¬ a1 = 1 by omega) h
    replace h := g_neg (show ¬ a1 = 2 by omega) h
    replace h := g_neg (show ¬ a1 = 3 by omega) h
    replace h := g_neg (show ¬ a1 = 4 by omega) h
    replace h := g_neg (show ¬ a1 = 5 by omega) h
    replace h := g_neg (show ¬ a1 = 6 by omega) h
    replace h := g_neg (show ¬ a1 = 7 by omega) h
    refine m_blk C0 (pX12_ok rfl) kX12_about_ok 118 1 (252, [some (.inr (.inr (71, 0))), some (.inl a1), some (.inl 0), none, none, none, none], [.inl (-1)], σ) (Ps := []) rfl trivial ?_
    cases h
    exact m_iret C0 hFin (k_at kX12_about_ok 119 rfl) (Or.inl rfl)
set_option maxRecDepth 100000 in
set_option maxHeartbeats 4000000 in
theorem t_X12_isElement {e : mEv} (hG : mGeo (mw0 e) lw_kept) (l : Launch) (N : Nat) {a1 : Int} {σ σ' : mS} {v : Int} (h : f_X12_isElement N a1 σ = some (v, σ')) : mMet l (mw0 e) lw_kept 1 yX12_isElement cX12_isElement 2 (some .boolean) [.inr (.inr (71, 0)), .inl a1] σ (some (.inl v)) σ' := by
  refine mMet_intro (plainFor_of_name (by decide)) hG (Nat.le_of_ble_eq_true rfl) (fun f hl hR C0 hFin => ?_)
  subst hl
  have hFr := mFr_of hR hFin
  unfold f_X12_isElement at h
  show mWW f (mw0 e) sc0 2 (0, [some (.inr (.inr (71, 0))), some (.inl a1)], [], σ)
  refine m_blk C0 (pX12_ok rfl) kX12_isElement_ok 0 6 (8, [some (.inr (.inr (71, 0))), some (.inl a1)], [.inl (mw ((σ 71 0 6) - 1)), .inl 0, .inl a1], σ) (Ps := []) rfl trivial ?_
  obtain ⟨⟨v1523, s1522⟩, hq1524, h⟩ := g_bind h
  refine c_S (rest := []) C0 hFr (t_X12_isIn hG f.2.1 N hq1524) lk_X12_110 (k_at kX12_isElement_ok 6 rfl) rfl rfl rfl (by decide) (by decide) (Nat.le_of_ble_eq_true rfl) ?_
  obtain ⟨hz, h⟩ := g_if h
  cases h
  exact m_iret C0 hFin (k_at kX12_isElement_ok 7 rfl) (Or.inr ⟨rfl, hz⟩)
set_option maxRecDepth 100000 in
set_option maxHeartbeats 4000000 in
theorem t_X12_element {e : mEv} (hG : mGeo (mw0 e) lw_kept) (l : Launch) (N : Nat) {a1 : Int} {a2 : Int} {σ σ' : mS} {v : Int} (h : f_X12_element N a1 a2 σ = some (v, σ')) : mMet l (mw0 e) lw_kept 2 yX12_element cX12_element 3 (some .int) [.inr (.inr (71, 0)), .inl a1, .inl a2] σ (some (.inl v)) σ' := by
  refine mMet_intro (plainFor_of_name (by decide)) hG (Nat.le_of_ble_eq_true rfl) (fun f hl hR C0 hFin => ?_)
  subst hl
  have hFr := mFr_of hR hFin
  unfold f_X12_element at h
  show mWW f (mw0 e) sc0 3 (0, [some (.inr (.inr (71, 0))), some (.inl a1), some (.inl a2)], [], σ)
  refine m_blk C0 (pX12_ok rfl) kX12_element_ok 0 2 (2, [some (.inr (.inr (71, 0))), some (.inl a1), some (.inl a2)], [.inl a1, .inr (.inr (71, 0))], σ) (Ps := []) rfl trivial ?_
  obtain ⟨⟨v1526, s1525⟩, hq1532, h⟩ := g_bind h
  refine c_V (rest := []) C0 hFr (t_X12_isElement hG f.2.1 N hq1532) lk_X12_125 (k_at kX12_element_ok 2 rfl) rfl rfl rfl rfl ⟨_, _, rfl⟩ (by decide) (by decide) (Nat.le_of_ble_eq_true rfl) ?_
  refine b_eq C0 kX12_element_ok 3 (off := 25) (tgt := 30) rfl (by decide) (fun hb1531 => ?_) (fun hb1531 => ?_)
  · replace h := g_pos hb1531 h
    refine m_blk C0 (pX12_ok rfl) kX12_element_ok 18 1 (31, [some (.inr (.inr (71, 0))), some (.inl a1), some (.inl a2)], [.inl 0], s1525) (Ps := []) rfl trivial ?_
    cases h
    exact m_iret C0 hFin (k_at kX12_element_ok 19 rfl) (Or.inl rfl)
  · replace h := g_neg hb1531 h
    refine m_blk C0 (pX12_ok rfl) kX12_element_ok 4 3 (11, [some (.inr (.inr (71, 0))), some (.inl a1), some (.inl a2)], [.inl 2, .inl 0, .inl a2], s1525) (Ps := []) rfl trivial ?_
    obtain ⟨⟨v1528, s1527⟩, hq1530, h⟩ := g_bind h
    refine c_S (rest := []) C0 hFr (t_X12_isIn hG f.2.1 N hq1530) lk_X12_110 (k_at kX12_element_ok 7 rfl) rfl rfl rfl (by decide) (by decide) (Nat.le_of_ble_eq_true rfl) ?_
    refine b_eq C0 kX12_element_ok 8 (off := 16) (tgt := 30) rfl (by decide) (fun hb1529 => ?_) (fun hb1529 => ?_)
    · replace h := g_pos hb1529 h
      refine m_blk C0 (pX12_ok rfl) kX12_element_ok 18 1 (31, [some (.inr (.inr (71, 0))), some (.inl a1), some (.inl a2)], [.inl 0], s1527) (Ps := []) rfl trivial ?_
      cases h
      exact m_iret C0 hFin (k_at kX12_element_ok 19 rfl) (Or.inl rfl)
    · replace h := g_neg hb1529 h
      obtain ⟨hc, h⟩ := g_if h
      refine m_blk C0 (pX12_ok rfl) kX12_element_ok 9 9 (31, [some (.inr (.inr (71, 0))), some (.inl a1), some (.inl a2)], [.inl (s1527 74 0 ((mw ((mw ((3 : Int) * a1)) + a2)).toNat))], s1527) (Ps := [0 ≤ (mw ((mw ((3 : Int) * a1)) + a2)) ∧ (mw ((mw ((3 : Int) * a1)) + a2)) < 144]) rfl (And.intro hc trivial) ?_
      cases h
      exact m_iret C0 hFin (k_at kX12_element_ok 19 rfl) (Or.inl rfl)
set_option maxRecDepth 100000 in
set_option maxHeartbeats 4000000 in
theorem t_X12_times {e : mEv} (hG : mGeo (mw0 e) lw_kept) (l : Launch) (N : Nat) {a1 : Int} {a2 : Int} {σ σ' : mS} {v : Int} (h : f_X12_times N a1 a2 σ = some (v, σ')) : mMet l (mw0 e) lw_kept 3 yX12_times cX12_times 3 (some .int) [.inr (.inr (71, 0)), .inl a1, .inl a2] σ (some (.inl v)) σ' := by
  refine mMet_intro (plainFor_of_name (by decide)) hG (Nat.le_of_ble_eq_true rfl) (fun f hl hR C0 hFin => ?_)
  subst hl
  have hFr := mFr_of hR hFin
  unfold f_X12_times at h
  show mWW f (mw0 e) sc0 3 (0, [some (.inr (.inr (71, 0))), some (.inl a1), some (.inl a2)], [], σ)
  refine m_blk C0 (pX12_ok rfl) kX12_times_ok 0 2 (2, [some (.inr (.inr (71, 0))), some (.inl a1), some (.inl a2)], [.inl a1, .inr (.inr (71, 0))], σ) (Ps := []) rfl trivial ?_
  obtain ⟨⟨v1534, s1533⟩, hq1543, h⟩ := g_bind h
  refine c_V (rest := []) C0 hFr (t_X12_isElement hG f.2.1 N hq1543) lk_X12_125 (k_at kX12_times_ok 2 rfl) rfl rfl rfl rfl ⟨_, _, rfl⟩ (by decide) (by decide) (Nat.le_of_ble_eq_true rfl) ?_
  refine b_eq C0 kX12_times_ok 3 (off := 20) (tgt := 25) rfl (by decide) (fun hb1542 => ?_) (fun hb1542 => ?_)
  · replace h := g_pos hb1542 h
    refine m_blk C0 (pX12_ok rfl) kX12_times_ok 13 1 (26, [some (.inr (.inr (71, 0))), some (.inl a1), some (.inl a2)], [.inl (-1)], s1533) (Ps := []) rfl trivial ?_
    cases h
    exact m_iret C0 hFin (k_at kX12_times_ok 14 rfl) (Or.inl rfl)
  · replace h := g_neg hb1542 h
    refine m_blk C0 (pX12_ok rfl) kX12_times_ok 4 2 (10, [some (.inr (.inr (71, 0))), some (.inl a1), some (.inl a2)], [.inl a2, .inr (.inr (71, 0))], s1533) (Ps := []) rfl trivial ?_
    obtain ⟨⟨v1536, s1535⟩, hq1541, h⟩ := g_bind h
    refine c_V (rest := []) C0 hFr (t_X12_isElement hG f.2.1 N hq1541) lk_X12_125 (k_at kX12_times_ok 6 rfl) rfl rfl rfl rfl ⟨_, _, rfl⟩ (by decide) (by decide) (Nat.le_of_ble_eq_true rfl) ?_
    refine b_eq C0 kX12_times_ok 7 (off := 12) (tgt := 25) rfl (by decide) (fun hb1540 => ?_) (fun hb1540 => ?_)
    · replace h := g_pos hb1540 h
      refine m_blk C0 (pX12_ok rfl) kX12_times_ok 13 1 (26, [some (.inr (.inr (71, 0))), some (.inl a1), some (.inl a2)], [.inl (-1)], s1535) (Ps := []) rfl trivial ?_
      cases h
      exact m_iret C0 hFin (k_at kX12_times_ok 14 rfl) (Or.inl rfl)
    · replace h := g_neg hb1540 h
      refine m_blk C0 (pX12_ok rfl) kX12_times_ok 8 3 (19, [some (.inr (.inr (71, 0))), some (.inl a1), some (.inl a2)], [.inl a2, .inl a1, .inr (.inr (71, 0))], s1535) (Ps := []) rfl trivial ?_
      obtain ⟨⟨v1538, s1537⟩, hq1539, h⟩ := g_bind h
      refine c_V (rest := []) C0 hFr (t_X12_product hG f.2.1 N hq1539) lk_X12_128 (k_at kX12_times_ok 11 rfl) rfl rfl rfl rfl ⟨_, _, rfl⟩ (by decide) (by decide) (Nat.le_of_ble_eq_true rfl) ?_
      refine m_blk C0 (pX12_ok rfl) kX12_times_ok 12 1 (26, [some (.inr (.inr (71, 0))), some (.inl a1), some (.inl a2)], [.inl v1538], s1537) (Ps := []) rfl trivial ?_
      cases h
      exact m_iret C0 hFin (k_at kX12_times_ok 14 rfl) (Or.inl rfl)
set_option maxRecDepth 100000 in
set_option maxHeartbeats 4000000 in
theorem t_X12_of {e : mEv} (hG : mGeo (mw0 e) lw_kept) (l : Launch) (N : Nat) {a1 : Int} {a2 : Int} {σ σ' : mS} {v : Int} (h : f_X12_of N a1 a2 σ = some (v, σ')) : mMet l (mw0 e) lw_kept 5 yX12_of cX12_of 3 (some .int) [.inr (.inr (71, 0)), .inl a1, .inl a2] σ (some (.inl v)) σ' := by
  refine mMet_intro (plainFor_of_name (by decide)) hG (Nat.le_of_ble_eq_true rfl) (fun f hl hR C0 hFin => ?_)
  subst hl
  have hFr := mFr_of hR hFin
  unfold f_X12_of at h
  show mWW f (mw0 e) sc0 3 (0, [some (.inr (.inr (71, 0))), some (.inl a1), some (.inl a2)], [], σ)
  refine m_blk C0 (pX12_ok rfl) kX12_of_ok 0 2 (2, [some (.inr (.inr (71, 0))), some (.inl a1), some (.inl a2)], [.inl a1, .inr (.inr (71, 0))], σ) (Ps := []) rfl trivial ?_
  obtain ⟨⟨v1545, s1544⟩, hq1561, h⟩ := g_bind h
  refine c_V (rest := []) C0 hFr (t_X12_isElement hG f.2.1 N hq1561) lk_X12_125 (k_at kX12_of_ok 2 rfl) rfl rfl rfl rfl ⟨_, _, rfl⟩ (by decide) (by decide) (Nat.le_of_ble_eq_true rfl) ?_
  refine b_ne C0 kX12_of_ok 3 (off := 5) (tgt := 10) rfl (by decide) (fun hb1560 => ?_) (fun hb1560 => ?_)
  · replace h := g_neg hb1560 h
    refine m_blk C0 (pX12_ok rfl) kX12_of_ok 6 1 (11, [some (.inr (.inr (71, 0))), some (.inl a1), some (.inl a2)], [.inl a2], s1544) (Ps := []) rfl trivial ?_
    refine b_ne C0 kX12_of_ok 7 (off := 11) (tgt := 22) rfl (by decide) (fun hb1559 => ?_) (fun hb1559 => ?_)
    · replace h := g_neg hb1559 h
      refine m_blk C0 (pX12_ok rfl) kX12_of_ok 12 2 (24, [some (.inr (.inr (71, 0))), some (.inl a1), some (.inl a2)], [.inl 1, .inl a2], s1544) (Ps := []) rfl trivial ?_
      refine b_ine C0 kX12_of_ok 14 (off := 11) (tgt := 35) rfl (by decide) (fun hb1555 => ?_) (fun hb1555 => ?_)
      · replace h := g_neg hb1555 h
        refine m_blk C0 (pX12_ok rfl) kX12_of_ok 19 2 (37, [some (.inr (.inr (71, 0))), some (.inl a1), some (.inl a2)], [.inl 2, .inl a2], s1544) (Ps := []) rfl trivial ?_
        refine b_ine C0 kX12_of_ok 21 (off := 12) (tgt := 49) rfl (by decide) (fun hb1551 => ?_) (fun hb1551 => ?_)
        · replace h := g_neg hb1551 h
          refine m_blk C0 (pX12_ok rfl) kX12_of_ok 27 2 (51, [some (.inr (.inr (71, 0))), some (.inl a1), some (.inl a2)], [.inl 3, .inl a2], s1544) (Ps := []) rfl trivial ?_
          refine b_ine C0 kX12_of_ok 29 (off := 19) (tgt := 70) rfl (by decide) (fun hb1550 => ?_) (fun hb1550 => ?_)
          · replace h := g_neg hb1550 h
            refine m_blk C0 (pX12_ok rfl) kX12_of_ok 38 1 (71, [some (.inr (.inr (71, 0))), some (.inl a1), some (.inl a2)], [.inl (-1)], s1544) (Ps := []) rfl trivial ?_
            cases h
            exact m_iret C0 hFin (k_at kX12_of_ok 39 rfl) (Or.inl rfl)
          · replace h := g_pos hb1550 h
            refine m_blk C0 (pX12_ok rfl) kX12_of_ok 30 2 (56, [some (.inr (.inr (71, 0))), some (.inl a1), some (.inl a2)], [.inl a1, .inr (.inr (71, 0))], s1544) (Ps := []) rfl trivial ?_
            obtain ⟨⟨v1547, s1546⟩, hq1549, h⟩ := g_bind h
            refine c_V (rest := []) C0 hFr (t_X12_isMirror hG f.2.1 N hq1549) lk_X12_168 (k_at kX12_of_ok 32 rfl) rfl rfl rfl rfl ⟨_, _, rfl⟩ (by decide) (by decide) (Nat.le_of_ble_eq_true rfl) ?_
            refine b_eq C0 kX12_of_ok 33 (off := 7) (tgt := 66) rfl (by decide) (fun hb1548 => ?_) (fun hb1548 => ?_)
            · replace h := g_pos hb1548 h
              refine m_blk C0 (pX12_ok rfl) kX12_of_ok 36 2 (71, [some (.inr (.inr (71, 0))), some (.inl a1), some (.inl a2)], [.inl 0], s1546) (Ps := []) rfl trivial ?_
              cases h
              exact m_iret C0 hFin (k_at kX12_of_ok 39 rfl) (Or.inl rfl)
            · replace h := g_neg hb1548 h
              refine m_blk C0 (pX12_ok rfl) kX12_of_ok 34 2 (71, [some (.inr (.inr (71, 0))), some (.inl a1), some (.inl a2)], [.inl 1], s1546) (Ps := []) rfl trivial ?_
              cases h
              exact m_iret C0 hFin (k_at kX12_of_ok 39 rfl) (Or.inl rfl)
        · replace h := g_pos hb1551 h
          obtain ⟨hc, h⟩ := g_if h
          refine m_blk C0 (pX12_ok rfl) kX12_of_ok 22 5 (71, [some (.inr (.inr (71, 0))), some (.inl a1), some (.inl a2)], [.inl (s1544 78 0 a1.toNat)], s1544) (Ps := [0 ≤ a1 ∧ a1 < 48]) rfl (And.intro hc trivial) ?_
          cases h
          exact m_iret C0 hFin (k_at kX12_of_ok 39 rfl) (Or.inl rfl)
      · replace h := g_pos hb1555 h
        refine m_blk C0 (pX12_ok rfl) kX12_of_ok 15 2 (29, [some (.inr (.inr (71, 0))), some (.inl a1), some (.inl a2)], [.inl a1, .inr (.inr (71, 0))], s1544) (Ps := []) rfl trivial ?_
        obtain ⟨⟨v1553, s1552⟩, hq1554, h⟩ := g_bind h
        refine c_V (rest := []) C0 hFr (t_X12_order hG f.2.1 N hq1554) lk_X12_171 (k_at kX12_of_ok 17 rfl) rfl rfl rfl rfl ⟨_, _, rfl⟩ (by decide) (by decide) (Nat.le_of_ble_eq_true rfl) ?_
        refine m_blk C0 (pX12_ok rfl) kX12_of_ok 18 1 (71, [some (.inr (.inr (71, 0))), some (.inl a1), some (.inl a2)], [.inl v1553], s1552) (Ps := []) rfl trivial ?_
        cases h
        exact m_iret C0 hFin (k_at kX12_of_ok 39 rfl) (Or.inl rfl)
    · replace h := g_pos hb1559 h
      refine m_blk C0 (pX12_ok rfl) kX12_of_ok 8 2 (16, [some (.inr (.inr (71, 0))), some (.inl a1), some (.inl a2)], [.inl a1, .inr (.inr (71, 0))], s1544) (Ps := []) rfl trivial ?_
      obtain ⟨⟨v1557, s1556⟩, hq1558, h⟩ := g_bind h
      refine c_V (rest := []) C0 hFr (t_X12_back hG f.2.1 N hq1558) lk_X12_135 (k_at kX12_of_ok 10 rfl) rfl rfl rfl rfl ⟨_, _, rfl⟩ (by decide) (by decide) (Nat.le_of_ble_eq_true rfl) ?_
      refine m_blk C0 (pX12_ok rfl) kX12_of_ok 11 1 (71, [some (.inr (.inr (71, 0))), some (.inl a1), some (.inl a2)], [.inl v1557], s1556) (Ps := []) rfl trivial ?_
      cases h
      exact m_iret C0 hFin (k_at kX12_of_ok 39 rfl) (Or.inl rfl)
  · replace h := g_pos hb1560 h
    refine m_blk C0 (pX12_ok rfl) kX12_of_ok 4 1 (9, [some (.inr (.inr (71, 0))), some (.inl a1), some (.inl a2)], [.inl (-1)], s1544) (Ps := []) rfl trivial ?_
    cases h
    exact m_iret C0 hFin (k_at kX12_of_ok 5 rfl) (Or.inl rfl)
set_option maxRecDepth 100000 in
set_option maxHeartbeats 4000000 in
theorem t_X12_isSign {e : mEv} (hG : mGeo (mw0 e) lw_kept) (l : Launch) (N : Nat) {a1 : Int} {σ σ' : mS} {v : Int} (h : f_X12_isSign N a1 σ = some (v, σ')) : mMet l (mw0 e) lw_kept 1 yX12_isSign cX12_isSign 2 (some .boolean) [.inr (.inr (71, 0)), .inl a1] σ (some (.inl v)) σ' := by
  refine mMet_intro (plainFor_of_name (by decide)) hG (Nat.le_of_ble_eq_true rfl) (fun f hl hR C0 hFin => ?_)
  subst hl
  have hFr := mFr_of hR hFin
  unfold f_X12_isSign at h
  show mWW f (mw0 e) sc0 2 (0, [some (.inr (.inr (71, 0))), some (.inl a1)], [], σ)
  refine m_blk C0 (pX12_ok rfl) kX12_isSign_ok 0 6 (8, [some (.inr (.inr (71, 0))), some (.inl a1)], [.inl (mw ((σ 71 0 11) - 1)), .inl 0, .inl a1], σ) (Ps := []) rfl trivial ?_
  obtain ⟨⟨v1563, s1562⟩, hq1564, h⟩ := g_bind h
  refine c_S (rest := []) C0 hFr (t_X12_isIn hG f.2.1 N hq1564) lk_X12_110 (k_at kX12_isSign_ok 6 rfl) rfl rfl rfl (by decide) (by decide) (Nat.le_of_ble_eq_true rfl) ?_
  obtain ⟨hz, h⟩ := g_if h
  cases h
  exact m_iret C0 hFin (k_at kX12_isSign_ok 7 rfl) (Or.inr ⟨rfl, hz⟩)
set_option maxRecDepth 100000 in
set_option maxHeartbeats 4000000 in
theorem t_X12_sign {e : mEv} (hG : mGeo (mw0 e) lw_kept) (l : Launch) (N : Nat) {a1 : Int} {a2 : Int} {σ σ' : mS} {v : Int} (h : f_X12_sign N a1 a2 σ = some (v, σ')) : mMet l (mw0 e) lw_kept 2 yX12_sign cX12_sign 3 (some .int) [.inr (.inr (71, 0)), .inl a1, .inl a2] σ (some (.inl v)) σ' := by
  refine mMet_intro (plainFor_of_name (by decide)) hG (Nat.le_of_ble_eq_true rfl) (fun f hl hR C0 hFin => ?_)
  subst hl
  have hFr := mFr_of hR hFin
  unfold f_X12_sign at h
  show mWW f (mw0 e) sc0 3 (0, [some (.inr (.inr (71, 0))), some (.inl a1), some (.inl a2)], [], σ)
  refine m_blk C0 (pX12_ok rfl) kX12_sign_ok 0 2 (2, [some (.inr (.inr (71, 0))), some (.inl a1), some (.inl a2)], [.inl a1, .inr (.inr (71, 0))], σ) (Ps := []) rfl trivial ?_
  obtain ⟨⟨v1566, s1565⟩, hq1572, h⟩ := g_bind h
  refine c_V (rest := []) C0 hFr (t_X12_isSign hG f.2.1 N hq1572) lk_X12_153 (k_at kX12_sign_ok 2 rfl) rfl rfl rfl rfl ⟨_, _, rfl⟩ (by decide) (by decide) (Nat.le_of_ble_eq_true rfl) ?_
  refine b_eq C0 kX12_sign_ok 3 (off := 25) (tgt := 30) rfl (by decide) (fun hb1571 => ?_) (fun hb1571 => ?_)
  · replace h := g_pos hb1571 h
    refine m_blk C0 (pX12_ok rfl) kX12_sign_ok 17 1 (31, [some (.inr (.inr (71, 0))), some (.inl a1), some (.inl a2)], [.inl 0], s1565) (Ps := []) rfl trivial ?_
    cases h
    exact m_iret C0 hFin (k_at kX12_sign_ok 18 rfl) (Or.inl rfl)
  · replace h := g_neg hb1571 h
    refine m_blk C0 (pX12_ok rfl) kX12_sign_ok 4 2 (10, [some (.inr (.inr (71, 0))), some (.inl a1), some (.inl a2)], [.inl a2, .inr (.inr (71, 0))], s1565) (Ps := []) rfl trivial ?_
    obtain ⟨⟨v1568, s1567⟩, hq1570, h⟩ := g_bind h
    refine c_V (rest := []) C0 hFr (t_X12_isElement hG f.2.1 N hq1570) lk_X12_125 (k_at kX12_sign_ok 6 rfl) rfl rfl rfl rfl ⟨_, _, rfl⟩ (by decide) (by decide) (Nat.le_of_ble_eq_true rfl) ?_
    refine b_eq C0 kX12_sign_ok 7 (off := 17) (tgt := 30) rfl (by decide) (fun hb1569 => ?_) (fun hb1569 => ?_)
    · replace h := g_pos hb1569 h
      refine m_blk C0 (pX12_ok rfl) kX12_sign_ok 17 1 (31, [some (.inr (.inr (71, 0))), some (.inl a1), some (.inl a2)], [.inl 0], s1567) (Ps := []) rfl trivial ?_
      cases h
      exact m_iret C0 hFin (k_at kX12_sign_ok 18 rfl) (Or.inl rfl)
    · replace h := g_neg hb1569 h
      obtain ⟨hc, h⟩ := g_if h
      refine m_blk C0 (pX12_ok rfl) kX12_sign_ok 8 9 (31, [some (.inr (.inr (71, 0))), some (.inl a1), some (.inl a2)], [.inl (s1567 79 0 ((mw ((mw ((48 : Int) * a1)) + a2)).toNat))], s1567) (Ps := [0 ≤ (mw ((mw ((48 : Int) * a1)) + a2)) ∧ (mw ((mw ((48 : Int) * a1)) + a2)) < 768]) rfl (And.intro hc trivial) ?_
      cases h
      exact m_iret C0 hFin (k_at kX12_sign_ok 18 rfl) (Or.inl rfl)
set_option maxRecDepth 100000 in
set_option maxHeartbeats 4000000 in
theorem t_X12_isPoly {e : mEv} (hG : mGeo (mw0 e) lw_kept) (l : Launch) (N : Nat) {a0 : Int} {σ σ' : mS} {v : Int} (h : f_X12_isPoly N a0 σ = some (v, σ')) : mMet l (mw0 e) lw_kept 1 yX12_isPoly cX12_isPoly 1 (some .boolean) [.inl a0] σ (some (.inl v)) σ' := by
  refine mMet_intro (plainFor_of_name (by decide)) hG (Nat.le_of_ble_eq_true rfl) (fun f hl hR C0 hFin => ?_)
  subst hl
  have hFr := mFr_of hR hFin
  unfold f_X12_isPoly at h
  show mWW f (mw0 e) sc0 1 (0, [some (.inl a0)], [], σ)
  refine m_blk C0 (pX12_ok rfl) kX12_isPoly_ok 0 3 (4, [some (.inl a0)], [.inl 7, .inl 0, .inl a0], σ) (Ps := []) rfl trivial ?_
  obtain ⟨⟨v1574, s1573⟩, hq1575, h⟩ := g_bind h
  refine c_S (rest := []) C0 hFr (t_X12_isIn hG f.2.1 N hq1575) lk_X12_110 (k_at kX12_isPoly_ok 3 rfl) rfl rfl rfl (by decide) (by decide) (Nat.le_of_ble_eq_true rfl) ?_
  obtain ⟨hz, h⟩ := g_if h
  cases h
  exact m_iret C0 hFin (k_at kX12_isPoly_ok 4 rfl) (Or.inr ⟨rfl, hz⟩)
set_option maxRecDepth 100000 in
set_option maxHeartbeats 4000000 in
theorem t_X12_arePowers {e : mEv} (hG : mGeo (mw0 e) lw_kept) (l : Launch) (N : Nat) {a0 : Int} {a1 : Int} {a2 : Int} {σ σ' : mS} {v : Int} (h : f_X12_arePowers N a0 a1 a2 σ = some (v, σ')) : mMet l (mw0 e) lw_kept 0 yX12_arePowers cX12_arePowers 3 (some .boolean) [.inl a0, .inl a1, .inl a2] σ (some (.inl v)) σ' := by
  refine mMet_intro (plainFor_of_name (by decide)) hG (Nat.le_of_ble_eq_true rfl) (fun f hl hR C0 hFin => ?_)
  subst hl
  have hFr := mFr_of hR hFin
  unfold f_X12_arePowers at h
  show mWW f (mw0 e) sc0 3 (0, [some (.inl a0), some (.inl a1), some (.inl a2)], [], σ)
  refine m_blk C0 (pX12_ok rfl) kX12_arePowers_ok 0 1 (1, [some (.inl a0), some (.inl a1), some (.inl a2)], [.inl a0], σ) (Ps := []) rfl trivial ?_
  refine b_lt C0 kX12_arePowers_ok 1 (off := 43) (tgt := 44) rfl (by decide) (fun hb1584 => ?_) (fun hb1584 => ?_)
  · replace h := g_pos hb1584 h
    refine m_blk C0 (pX12_ok rfl) kX12_arePowers_ok 24 1 (45, [some (.inl a0), some (.inl a1), some (.inl a2)], [.inl 0], σ) (Ps := []) rfl trivial ?_
    cases h
    exact m_iret C0 hFin (k_at kX12_arePowers_ok 25 rfl) (Or.inr ⟨rfl, by decide⟩)
  · replace h := g_neg hb1584 h
    refine m_blk C0 (pX12_ok rfl) kX12_arePowers_ok 2 1 (5, [some (.inl a0), some (.inl a1), some (.inl a2)], [.inl a1], σ) (Ps := []) rfl trivial ?_
    refine b_lt C0 kX12_arePowers_ok 3 (off := 39) (tgt := 44) rfl (by decide) (fun hb1583 => ?_) (fun hb1583 => ?_)
    · replace h := g_pos hb1583 h
      refine m_blk C0 (pX12_ok rfl) kX12_arePowers_ok 24 1 (45, [some (.inl a0), some (.inl a1), some (.inl a2)], [.inl 0], σ) (Ps := []) rfl trivial ?_
      cases h
      exact m_iret C0 hFin (k_at kX12_arePowers_ok 25 rfl) (Or.inr ⟨rfl, by decide⟩)
    · replace h := g_neg hb1583 h
      refine m_blk C0 (pX12_ok rfl) kX12_arePowers_ok 4 1 (9, [some (.inl a0), some (.inl a1), some (.inl a2)], [.inl a2], σ) (Ps := []) rfl trivial ?_
      refine b_lt C0 kX12_arePowers_ok 5 (off := 35) (tgt := 44) rfl (by decide) (fun hb1582 => ?_) (fun hb1582 => ?_)
      · replace h := g_pos hb1582 h
        refine m_blk C0 (pX12_ok rfl) kX12_arePowers_ok 24 1 (45, [some (.inl a0), some (.inl a1), some (.inl a2)], [.inl 0], σ) (Ps := []) rfl trivial ?_
        cases h
        exact m_iret C0 hFin (k_at kX12_arePowers_ok 25 rfl) (Or.inr ⟨rfl, by decide⟩)
      · replace h := g_neg hb1582 h
        refine m_blk C0 (pX12_ok rfl) kX12_arePowers_ok 6 2 (15, [some (.inl a0), some (.inl a1), some (.inl a2)], [.inl 8, .inl a0], σ) (Ps := []) rfl trivial ?_
        refine b_igt C0 kX12_arePowers_ok 8 (off := 29) (tgt := 44) rfl (by decide) (fun hb1581 => ?_) (fun hb1581 => ?_)
        · replace h := g_pos hb1581 h
          refine m_blk C0 (pX12_ok rfl) kX12_arePowers_ok 24 1 (45, [some (.inl a0), some (.inl a1), some (.inl a2)], [.inl 0], σ) (Ps := []) rfl trivial ?_
          cases h
          exact m_iret C0 hFin (k_at kX12_arePowers_ok 25 rfl) (Or.inr ⟨rfl, by decide⟩)
        · replace h := g_neg hb1581 h
          refine m_blk C0 (pX12_ok rfl) kX12_arePowers_ok 9 2 (21, [some (.inl a0), some (.inl a1), some (.inl a2)], [.inl 8, .inl a1], σ) (Ps := []) rfl trivial ?_
          refine b_igt C0 kX12_arePowers_ok 11 (off := 23) (tgt := 44) rfl (by decide) (fun hb1580 => ?_) (fun hb1580 => ?_)
          · replace h := g_pos hb1580 h
            refine m_blk C0 (pX12_ok rfl) kX12_arePowers_ok 24 1 (45, [some (.inl a0), some (.inl a1), some (.inl a2)], [.inl 0], σ) (Ps := []) rfl trivial ?_
            cases h
            exact m_iret C0 hFin (k_at kX12_arePowers_ok 25 rfl) (Or.inr ⟨rfl, by decide⟩)
          · replace h := g_neg hb1580 h
            refine m_blk C0 (pX12_ok rfl) kX12_arePowers_ok 12 2 (27, [some (.inl a0), some (.inl a1), some (.inl a2)], [.inl 8, .inl a2], σ) (Ps := []) rfl trivial ?_
            refine b_igt C0 kX12_arePowers_ok 14 (off := 17) (tgt := 44) rfl (by decide) (fun hb1579 => ?_) (fun hb1579 => ?_)
            · replace h := g_pos hb1579 h
              refine m_blk C0 (pX12_ok rfl) kX12_arePowers_ok 24 1 (45, [some (.inl a0), some (.inl a1), some (.inl a2)], [.inl 0], σ) (Ps := []) rfl trivial ?_
              cases h
              exact m_iret C0 hFin (k_at kX12_arePowers_ok 25 rfl) (Or.inr ⟨rfl, by decide⟩)
            · replace h := g_neg hb1579 h
              refine m_blk C0 (pX12_ok rfl) kX12_arePowers_ok 15 6 (37, [some (.inl a0), some (.inl a1), some (.inl a2)], [.inl 8, .inl (mw ((mw (a0 + a1)) + a2))], σ) (Ps := []) rfl trivial ?_
              refine b_igt C0 kX12_arePowers_ok 21 (off := 7) (tgt := 44) rfl (by decide) (fun hb1578 => ?_) (fun hb1578 => ?_)
              · replace h := g_pos hb1578 h
                refine m_blk C0 (pX12_ok rfl) kX12_arePowers_ok 24 1 (45, [some (.inl a0), some (.inl a1), some (.inl a2)], [.inl 0], σ) (Ps := []) rfl trivial ?_
                cases h
                exact m_iret C0 hFin (k_at kX12_arePowers_ok 25 rfl) (Or.inr ⟨rfl, by decide⟩)
              · replace h := g_neg hb1578 h
                refine m_blk C0 (pX12_ok rfl) kX12_arePowers_ok 22 2 (45, [some (.inl a0), some (.inl a1), some (.inl a2)], [.inl 1], σ) (Ps := []) rfl trivial ?_
                cases h
                exact m_iret C0 hFin (k_at kX12_arePowers_ok 25 rfl) (Or.inr ⟨rfl, by decide⟩)
set_option maxRecDepth 100000 in
set_option maxHeartbeats 4000000 in
theorem t_X12_put {e : mEv} (hG : mGeo (mw0 e) lw_kept) (l : Launch) (N : Nat) {a1 : Int} {a2 : Int} {a3 : Int} {a4 : Int} {a5 : Int} {σ σ' : mS} {v : Int} (h : f_X12_put N a1 a2 a3 a4 a5 σ = some (v, σ')) : mMet l (mw0 e) lw_kept 2 yX12_put cX12_put 6 (some .boolean) [.inr (.inr (71, 0)), .inl a1, .inl a2, .inl a3, .inl a4, .inl a5] σ (some (.inl v)) σ' := by
  refine mMet_intro (plainFor_of_name (by decide)) hG (Nat.le_of_ble_eq_true rfl) (fun f hl hR C0 hFin => ?_)
  subst hl
  have hFr := mFr_of hR hFin
  unfold f_X12_put at h
  show mWW f (mw0 e) sc0 6 (0, [some (.inr (.inr (71, 0))), some (.inl a1), some (.inl a2), some (.inl a3), some (.inl a4), some (.inl a5)], [], σ)
  refine m_blk C0 (pX12_ok rfl) kX12_put_ok 0 1 (1, [some (.inr (.inr (71, 0))), some (.inl a1), some (.inl a2), some (.inl a3), some (.inl a4), some (.inl a5)], [.inl a1], σ) (Ps := []) rfl trivial ?_
  obtain ⟨⟨v1577, s1576⟩, hq1596, h⟩ := g_bind h
  refine c_S (rest := []) C0 hFr (t_X12_isPoly hG f.2.1 N hq1596) lk_X12_184 (k_at kX12_put_ok 1 rfl) rfl rfl rfl (by decide) (by decide) (Nat.le_of_ble_eq_true rfl) ?_
  refine b_eq C0 kX12_put_ok 2 (off := 13) (tgt := 17) rfl (by decide) (fun hb1595 => ?_) (fun hb1595 => ?_)
  · replace h := g_pos hb1595 h
    refine m_blk C0 (pX12_ok rfl) kX12_put_ok 8 1 (18, [some (.inr (.inr (71, 0))), some (.inl a1), some (.inl a2), some (.inl a3), some (.inl a4), some (.inl a5)], [.inl 0], s1576) (Ps := []) rfl trivial ?_
    cases h
    exact m_iret C0 hFin (k_at kX12_put_ok 9 rfl) (Or.inr ⟨rfl, by decide⟩)
  · replace h := g_neg hb1595 h
    refine m_blk C0 (pX12_ok rfl) kX12_put_ok 3 3 (11, [some (.inr (.inr (71, 0))), some (.inl a1), some (.inl a2), some (.inl a3), some (.inl a4), some (.inl a5)], [.inl a4, .inl a3, .inl a2], s1576) (Ps := []) rfl trivial ?_
    obtain ⟨⟨v1586, s1585⟩, hq1594, h⟩ := g_bind h
    refine c_S (rest := []) C0 hFr (t_X12_arePowers hG f.2.1 N hq1594) lk_X12_187 (k_at kX12_put_ok 6 rfl) rfl rfl rfl (by decide) (by decide) (Nat.le_of_ble_eq_true rfl) ?_
    refine b_ne C0 kX12_put_ok 7 (off := 5) (tgt := 19) rfl (by decide) (fun hb1593 => ?_) (fun hb1593 => ?_)
    · replace h := g_neg hb1593 h
      refine m_blk C0 (pX12_ok rfl) kX12_put_ok 10 8 (32, [some (.inr (.inr (71, 0))), some (.inl a1), some (.inl a2), some (.inl a3), some (.inl a4), some (.inl a5)], [.inl a4, .inl a3, .inl a2, .inl (mw ((729 : Int) * a1)), .inr (.inr (81, 0))], s1585) (Ps := []) rfl trivial ?_
      obtain ⟨⟨v1588, s1587⟩, hq1592, h⟩ := g_bind h
      refine c_S (rest := [.inl (mw ((729 : Int) * a1)), .inr (.inr (81, 0))]) C0 hFr (t_X12_at hG f.2.1 N hq1592) lk_X12_181 (k_at kX12_put_ok 18 rfl) rfl rfl rfl (by decide) (by decide) (Nat.le_of_ble_eq_true rfl) ?_
      refine m_blk C0 (pX12_ok rfl) kX12_put_ok 19 3 (39, [some (.inr (.inr (71, 0))), some (.inl a1), some (.inl a2), some (.inl a3), some (.inl a4), some (.inl a5)], [.inr (.inl a5), .inl (mw ((mw ((729 : Int) * a1)) + v1588)), .inr (.inr (81, 0))], s1587) (Ps := []) rfl trivial ?_
      obtain ⟨⟨v1590, s1589⟩, hq1591, h⟩ := g_bind h
      refine c_S (rest := [.inl (mw ((mw ((729 : Int) * a1)) + v1588)), .inr (.inr (81, 0))]) C0 hFr (t_X12_left hG f.2.1 N hq1591) lk_X12_190 (k_at kX12_put_ok 22 rfl) rfl rfl rfl (by decide) (by decide) (Nat.le_of_ble_eq_true rfl) ?_
      obtain ⟨hc, h⟩ := g_if h
      refine m_blk C0 (pX12_ok rfl) kX12_put_ok 23 1 (43, [some (.inr (.inr (71, 0))), some (.inl a1), some (.inl a2), some (.inl a3), some (.inl a4), some (.inl a5)], [], (mup s1589 81 0 ((mw ((mw ((729 : Int) * a1)) + v1588)).toNat) v1590)) (Ps := [0 ≤ (mw ((mw ((729 : Int) * a1)) + v1588)) ∧ (mw ((mw ((729 : Int) * a1)) + v1588)) < 7290]) rfl (And.intro hc trivial) ?_
      refine m_blk C0 (pX12_ok rfl) kX12_put_ok 24 1 (44, [some (.inr (.inr (71, 0))), some (.inl a1), some (.inl a2), some (.inl a3), some (.inl a4), some (.inl a5)], [.inl 1], (mup s1589 81 0 ((mw ((mw ((729 : Int) * a1)) + v1588)).toNat) v1590)) (Ps := []) rfl trivial ?_
      cases h
      exact m_iret C0 hFin (k_at kX12_put_ok 25 rfl) (Or.inr ⟨rfl, by decide⟩)
    · replace h := g_pos hb1593 h
      refine m_blk C0 (pX12_ok rfl) kX12_put_ok 8 1 (18, [some (.inr (.inr (71, 0))), some (.inl a1), some (.inl a2), some (.inl a3), some (.inl a4), some (.inl a5)], [.inl 0], s1585) (Ps := []) rfl trivial ?_
      cases h
      exact m_iret C0 hFin (k_at kX12_put_ok 9 rfl) (Or.inr ⟨rfl, by decide⟩)
set_option maxRecDepth 100000 in
set_option maxHeartbeats 4000000 in
theorem t_X12_of_ {e : mEv} (hG : mGeo (mw0 e) lw_kept) (l : Launch) (N : Nat) {a1 : Int} {a2 : Int} {a3 : Int} {a4 : Int} {σ σ' : mS} {v : Int} (h : f_X12_of_ N a1 a2 a3 a4 σ = some (v, σ')) : mMet l (mw0 e) lw_kept 1 yX12_of_ cX12_of_ 5 (some .int) [.inr (.inr (71, 0)), .inl a1, .inl a2, .inl a3, .inl a4] σ (some (.inl v)) σ' := by
  refine mMet_intro (plainFor_of_name (by decide)) hG (Nat.le_of_ble_eq_true rfl) (fun f hl hR C0 hFin => ?_)
  subst hl
  have hFr := mFr_of hR hFin
  unfold f_X12_of_ at h
  show mWW f (mw0 e) sc0 5 (0, [some (.inr (.inr (71, 0))), some (.inl a1), some (.inl a2), some (.inl a3), some (.inl a4)], [], σ)
  refine m_blk C0 (pX12_ok rfl) kX12_of__ok 0 8 (13, [some (.inr (.inr (71, 0))), some (.inl a1), some (.inl a2), some (.inl a3), some (.inl a4)], [.inl a4, .inl a3, .inl a2, .inl (mw ((729 : Int) * a1)), .inr (.inr (81, 0))], σ) (Ps := []) rfl trivial ?_
  obtain ⟨⟨v1602, s1601⟩, hq1603, h⟩ := g_bind h
  refine c_S (rest := [.inl (mw ((729 : Int) * a1)), .inr (.inr (81, 0))]) C0 hFr (t_X12_at hG f.2.1 N hq1603) lk_X12_181 (k_at kX12_of__ok 8 rfl) rfl rfl rfl (by decide) (by decide) (Nat.le_of_ble_eq_true rfl) ?_
  obtain ⟨hc, h⟩ := g_if h
  refine m_blk C0 (pX12_ok rfl) kX12_of__ok 9 2 (18, [some (.inr (.inr (71, 0))), some (.inl a1), some (.inl a2), some (.inl a3), some (.inl a4)], [.inl (s1601 81 0 ((mw ((mw ((729 : Int) * a1)) + v1602)).toNat))], s1601) (Ps := [0 ≤ (mw ((mw ((729 : Int) * a1)) + v1602)) ∧ (mw ((mw ((729 : Int) * a1)) + v1602)) < 7290]) rfl (And.intro hc trivial) ?_
  cases h
  exact m_iret C0 hFin (k_at kX12_of__ok 11 rfl) (Or.inl rfl)
set_option maxRecDepth 100000 in
set_option maxHeartbeats 4000000 in
theorem t_X12_number {e : mEv} (hG : mGeo (mw0 e) lw_kept) (l : Launch) (N : Nat) {a1 : Int} {a2 : Int} {a3 : Int} {a4 : Int} {σ σ' : mS} {v : Int} (h : f_X12_number N a1 a2 a3 a4 σ = some (v, σ')) : mMet l (mw0 e) lw_kept 2 yX12_number cX12_number 5 (some .int) [.inr (.inr (71, 0)), .inl a1, .inl a2, .inl a3, .inl a4] σ (some (.inl v)) σ' := by
  refine mMet_intro (plainFor_of_name (by decide)) hG (Nat.le_of_ble_eq_true rfl) (fun f hl hR C0 hFin => ?_)
  subst hl
  have hFr := mFr_of hR hFin
  unfold f_X12_number at h
  show mWW f (mw0 e) sc0 5 (0, [some (.inr (.inr (71, 0))), some (.inl a1), some (.inl a2), some (.inl a3), some (.inl a4)], [], σ)
  refine m_blk C0 (pX12_ok rfl) kX12_number_ok 0 1 (1, [some (.inr (.inr (71, 0))), some (.inl a1), some (.inl a2), some (.inl a3), some (.inl a4)], [.inl a1], σ) (Ps := []) rfl trivial ?_
  obtain ⟨⟨v1598, s1597⟩, hq1610, h⟩ := g_bind h
  refine c_S (rest := []) C0 hFr (t_X12_isPoly hG f.2.1 N hq1610) lk_X12_184 (k_at kX12_number_ok 1 rfl) rfl rfl rfl (by decide) (by decide) (Nat.le_of_ble_eq_true rfl) ?_
  refine b_eq C0 kX12_number_ok 2 (off := 25) (tgt := 29) rfl (by decide) (fun hb1609 => ?_) (fun hb1609 => ?_)
  · replace h := g_pos hb1609 h
    refine m_blk C0 (pX12_ok rfl) kX12_number_ok 15 1 (30, [some (.inr (.inr (71, 0))), some (.inl a1), some (.inl a2), some (.inl a3), some (.inl a4)], [.inl 0], s1597) (Ps := []) rfl trivial ?_
    cases h
    exact m_iret C0 hFin (k_at kX12_number_ok 16 rfl) (Or.inl rfl)
  · replace h := g_neg hb1609 h
    refine m_blk C0 (pX12_ok rfl) kX12_number_ok 3 3 (11, [some (.inr (.inr (71, 0))), some (.inl a1), some (.inl a2), some (.inl a3), some (.inl a4)], [.inl a4, .inl a3, .inl a2], s1597) (Ps := []) rfl trivial ?_
    obtain ⟨⟨v1600, s1599⟩, hq1608, h⟩ := g_bind h
    refine c_S (rest := []) C0 hFr (t_X12_arePowers hG f.2.1 N hq1608) lk_X12_187 (k_at kX12_number_ok 6 rfl) rfl rfl rfl (by decide) (by decide) (Nat.le_of_ble_eq_true rfl) ?_
    refine b_eq C0 kX12_number_ok 7 (off := 15) (tgt := 29) rfl (by decide) (fun hb1607 => ?_) (fun hb1607 => ?_)
    · replace h := g_pos hb1607 h
      refine m_blk C0 (pX12_ok rfl) kX12_number_ok 15 1 (30, [some (.inr (.inr (71, 0))), some (.inl a1), some (.inl a2), some (.inl a3), some (.inl a4)], [.inl 0], s1599) (Ps := []) rfl trivial ?_
      cases h
      exact m_iret C0 hFin (k_at kX12_number_ok 16 rfl) (Or.inl rfl)
    · replace h := g_neg hb1607 h
      refine m_blk C0 (pX12_ok rfl) kX12_number_ok 8 5 (23, [some (.inr (.inr (71, 0))), some (.inl a1), some (.inl a2), some (.inl a3), some (.inl a4)], [.inl a4, .inl a3, .inl a2, .inl a1, .inr (.inr (71, 0))], s1599) (Ps := []) rfl trivial ?_
      obtain ⟨⟨v1605, s1604⟩, hq1606, h⟩ := g_bind h
      refine c_V (rest := []) C0 hFr (t_X12_of_ hG f.2.1 N hq1606) lk_X12_194 (k_at kX12_number_ok 13 rfl) rfl rfl rfl rfl ⟨_, _, rfl⟩ (by decide) (by decide) (Nat.le_of_ble_eq_true rfl) ?_
      refine m_blk C0 (pX12_ok rfl) kX12_number_ok 14 1 (30, [some (.inr (.inr (71, 0))), some (.inl a1), some (.inl a2), some (.inl a3), some (.inl a4)], [.inl v1605], s1604) (Ps := []) rfl trivial ?_
      cases h
      exact m_iret C0 hFin (k_at kX12_number_ok 16 rfl) (Or.inl rfl)
set_option maxRecDepth 100000 in
set_option maxHeartbeats 4000000 in
theorem p_X12_degree0_25 {e : mEv} (hG : mGeo (mw0 e) lw_kept) (N : Nat) {f : mFx} (C0 : mCx f (mw0 e) sc0 cX12_degree0 6 RX12 lw_kept) (hFr : mFr f 2) : ∀ (n : Nat) (x1 : Int) (x2 : Int) (x3 : Int) (x4 : Int) (x5 : Int) (σ : mS) (o2 : Int) (σ' : mS), L_X12_degree0_25 N n x1 x2 x3 x4 x5 σ = some (o2, σ') → mWW f (mw0 e) sc0 6 (75, [some (.inr (.inr (71, 0))), some (.inl x1), some (.inl o2), some (.inl x3), some (.inl x4), none], [], σ') → mWW f (mw0 e) sc0 6 (25, [some (.inr (.inr (71, 0))), some (.inl x1), some (.inl x2), some (.inl x3), some (.inl x4), some (.inl x5)], [], σ) := by
  intro n
  induction n with
  | zero =>
    intro x1 x2 x3 x4 x5 σ o2 σ' h hK
    cases h
  | succ n IH =>
    intro x1 x2 x3 x4 x5 σ o2 σ' h hK
    rw [L_X12_degree0_25_s] at h
    refine m_blk C0 (pX12_ok rfl) kX12_degree0_ok 16 6 (34, [some (.inr (.inr (71, 0))), some (.inl x1), some (.inl x2), some (.inl x3), some (.inl x4), some (.inl x5)], [.inl 9, .inl (mw ((mw (x3 + x4)) + x5))], σ) (Ps := []) rfl trivial ?_
    refine b_ige C0 kX12_degree0_ok 22 (off := 41) (tgt := 75) rfl (by decide) (fun hb1618 => ?_) (fun hb1618 => ?_)
    · replace h := g_pos hb1618 h
      cases h
      refine m_mask [true, true, true, true, true, false] (ls' := [some (.inr (.inr (71, 0))), some (.inl x1), some (.inl x2), some (.inl x3), some (.inl x4), none]) rfl ?_
      exact hK
    · replace h := g_neg hb1618 h
      refine m_blk C0 (pX12_ok rfl) kX12_degree0_ok 23 5 (44, [some (.inr (.inr (71, 0))), some (.inl x1), some (.inl x2), some (.inl x3), some (.inl x4), some (.inl x5)], [.inl x5, .inl x4, .inl x3, .inl x1, .inr (.inr (71, 0))], σ) (Ps := []) rfl trivial ?_
      obtain ⟨⟨v1614, s1613⟩, hq1617, h⟩ := g_bind h
      refine c_V (rest := []) C0 hFr (t_X12_of_ hG f.2.1 N hq1617) lk_X12_194 (k_at kX12_degree0_ok 28 rfl) rfl rfl rfl rfl ⟨_, _, rfl⟩ (by decide) (by decide) (Nat.le_of_ble_eq_true rfl) ?_
      refine b_eq C0 kX12_degree0_ok 29 (off := 22) (tgt := 69) rfl (by decide) (fun hb1616 => ?_) (fun hb1616 => ?_)
      · replace h := g_pos hb1616 h
        refine m_blk C0 (pX12_ok rfl) kX12_degree0_ok 43 2 (25, [some (.inr (.inr (71, 0))), some (.inl x1), some (.inl x2), some (.inl x3), some (.inl x4), some (.inl (mw (x5 + 1)))], [], s1613) (Ps := []) rfl trivial ?_
        refine m_mask [true, true, true, true, true, true] (ls' := [some (.inr (.inr (71, 0))), some (.inl x1), some (.inl x2), some (.inl x3), some (.inl x4), some (.inl (mw (x5 + 1)))]) rfl ?_
        exact IH _ _ _ _ _ _ _ _ h hK
      · replace h := g_neg hb1616 h
        refine m_blk C0 (pX12_ok rfl) kX12_degree0_ok 30 6 (58, [some (.inr (.inr (71, 0))), some (.inl x1), some (.inl x2), some (.inl x3), some (.inl x4), some (.inl x5)], [.inl x2, .inl (mw ((mw (x3 + x4)) + x5))], s1613) (Ps := []) rfl trivial ?_
        refine b_ile C0 kX12_degree0_ok 36 (off := 11) (tgt := 69) rfl (by decide) (fun hb1615 => ?_) (fun hb1615 => ?_)
        · replace h := g_pos hb1615 h
          refine m_blk C0 (pX12_ok rfl) kX12_degree0_ok 43 2 (25, [some (.inr (.inr (71, 0))), some (.inl x1), some (.inl x2), some (.inl x3), some (.inl x4), some (.inl (mw (x5 + 1)))], [], s1613) (Ps := []) rfl trivial ?_
          refine m_mask [true, true, true, true, true, true] (ls' := [some (.inr (.inr (71, 0))), some (.inl x1), some (.inl x2), some (.inl x3), some (.inl x4), some (.inl (mw (x5 + 1)))]) rfl ?_
          exact IH _ _ _ _ _ _ _ _ h hK
        · replace h := g_neg hb1615 h
          refine m_blk C0 (pX12_ok rfl) kX12_degree0_ok 37 8 (25, [some (.inr (.inr (71, 0))), some (.inl x1), some (.inl (mw ((mw (x3 + x4)) + x5))), some (.inl x3), some (.inl x4), some (.inl (mw (x5 + 1)))], [], s1613) (Ps := []) rfl trivial ?_
          refine m_mask [true, true, true, true, true, true] (ls' := [some (.inr (.inr (71, 0))), some (.inl x1), some (.inl (mw ((mw (x3 + x4)) + x5))), some (.inl x3), some (.inl x4), some (.inl (mw (x5 + 1)))]) rfl ?_
          exact IH _ _ _ _ _ _ _ _ h hK
set_option maxRecDepth 100000 in
set_option maxHeartbeats 4000000 in
theorem p_X12_degree0_13 {e : mEv} (hG : mGeo (mw0 e) lw_kept) (N : Nat) {f : mFx} (C0 : mCx f (mw0 e) sc0 cX12_degree0 6 RX12 lw_kept) (hFr : mFr f 2) : ∀ (n : Nat) (x1 : Int) (x2 : Int) (x3 : Int) (x4 : Int) (σ : mS) (o2 : Int) (σ' : mS), L_X12_degree0_13 N n x1 x2 x3 x4 σ = some (o2, σ') → mWW f (mw0 e) sc0 6 (81, [some (.inr (.inr (71, 0))), some (.inl x1), some (.inl o2), some (.inl x3), none, none], [], σ') → mWW f (mw0 e) sc0 6 (13, [some (.inr (.inr (71, 0))), some (.inl x1), some (.inl x2), some (.inl x3), some (.inl x4), none], [], σ) := by
  intro n
  induction n with
  | zero =>
    intro x1 x2 x3 x4 σ o2 σ' h hK
    cases h
  | succ n IH =>
    intro x1 x2 x3 x4 σ o2 σ' h hK
    rw [L_X12_degree0_13_s] at h
    refine m_blk C0 (pX12_ok rfl) kX12_degree0_ok 9 4 (19, [some (.inr (.inr (71, 0))), some (.inl x1), some (.inl x2), some (.inl x3), some (.inl x4), none], [.inl 9, .inl (mw (x3 + x4))], σ) (Ps := []) rfl trivial ?_
    refine b_ige C0 kX12_degree0_ok 13 (off := 62) (tgt := 81) rfl (by decide) (fun hb1622 => ?_) (fun hb1622 => ?_)
    · replace h := g_pos hb1622 h
      cases h
      refine m_mask [true, true, true, true, false, false] (ls' := [some (.inr (.inr (71, 0))), some (.inl x1), some (.inl x2), some (.inl x3), none, none]) rfl ?_
      exact hK
    · replace h := g_neg hb1622 h
      refine m_blk C0 (pX12_ok rfl) kX12_degree0_ok 14 2 (25, [some (.inr (.inr (71, 0))), some (.inl x1), some (.inl x2), some (.inl x3), some (.inl x4), some (.inl 0)], [], σ) (Ps := []) rfl trivial ?_
      obtain ⟨⟨o1620, s1619⟩, hq1621, h⟩ := g_bind h
      refine m_mask [true, true, true, true, true, true] (ls' := [some (.inr (.inr (71, 0))), some (.inl x1), some (.inl x2), some (.inl x3), some (.inl x4), some (.inl 0)]) rfl ?_
      refine p_X12_degree0_25 hG N C0 hFr N _ _ _ _ _ _ _ _ hq1621 ?_
      refine m_blk C0 (pX12_ok rfl) kX12_degree0_ok 45 2 (13, [some (.inr (.inr (71, 0))), some (.inl x1), some (.inl o1620), some (.inl x3), some (.inl (mw (x4 + 1))), none], [], s1619) (Ps := []) rfl trivial ?_
      refine m_mask [true, true, true, true, true, false] (ls' := [some (.inr (.inr (71, 0))), some (.inl x1), some (.inl o1620), some (.inl x3), some (.inl (mw (x4 + 1))), none]) rfl ?_
      exact IH _ _ _ _ _ _ _ h hK
set_option maxRecDepth 100000 in
set_option maxHeartbeats 4000000 in
theorem p_X12_degree0_4 {e : mEv} (hG : mGeo (mw0 e) lw_kept) (N : Nat) {f : mFx} (C0 : mCx f (mw0 e) sc0 cX12_degree0 6 RX12 lw_kept) (hFr : mFr f 2) : ∀ (n : Nat) (x1 : Int) (x2 : Int) (x3 : Int) (σ : mS) (o2 : Int) (σ' : mS), L_X12_degree0_4 N n x1 x2 x3 σ = some (o2, σ') → mWW f (mw0 e) sc0 6 (87, [none, none, some (.inl o2), none, none, none], [], σ') → mWW f (mw0 e) sc0 6 (4, [some (.inr (.inr (71, 0))), some (.inl x1), some (.inl x2), some (.inl x3), none, none], [], σ) := by
  intro n
  induction n with
  | zero =>
    intro x1 x2 x3 σ o2 σ' h hK
    cases h
  | succ n IH =>
    intro x1 x2 x3 σ o2 σ' h hK
    rw [L_X12_degree0_4_s] at h
    refine m_blk C0 (pX12_ok rfl) kX12_degree0_ok 4 2 (7, [some (.inr (.inr (71, 0))), some (.inl x1), some (.inl x2), some (.inl x3), none, none], [.inl 9, .inl x3], σ) (Ps := []) rfl trivial ?_
    refine b_ige C0 kX12_degree0_ok 6 (off := 80) (tgt := 87) rfl (by decide) (fun hb1626 => ?_) (fun hb1626 => ?_)
    · replace h := g_pos hb1626 h
      cases h
      refine m_mask [false, false, true, false, false, false] (ls' := [none, none, some (.inl x2), none, none, none]) rfl ?_
      exact hK
    · replace h := g_neg hb1626 h
      refine m_blk C0 (pX12_ok rfl) kX12_degree0_ok 7 2 (13, [some (.inr (.inr (71, 0))), some (.inl x1), some (.inl x2), some (.inl x3), some (.inl 0), none], [], σ) (Ps := []) rfl trivial ?_
      obtain ⟨⟨o1624, s1623⟩, hq1625, h⟩ := g_bind h
      refine m_mask [true, true, true, true, true, false] (ls' := [some (.inr (.inr (71, 0))), some (.inl x1), some (.inl x2), some (.inl x3), some (.inl 0), none]) rfl ?_
      refine p_X12_degree0_13 hG N C0 hFr N _ _ _ _ _ _ _ hq1625 ?_
      refine m_blk C0 (pX12_ok rfl) kX12_degree0_ok 47 2 (4, [some (.inr (.inr (71, 0))), some (.inl x1), some (.inl o1624), some (.inl (mw (x3 + 1))), none, none], [], s1623) (Ps := []) rfl trivial ?_
      refine m_mask [true, true, true, true, false, false] (ls' := [some (.inr (.inr (71, 0))), some (.inl x1), some (.inl o1624), some (.inl (mw (x3 + 1))), none, none]) rfl ?_
      exact IH _ _ _ _ _ _ h hK
set_option maxRecDepth 100000 in
set_option maxHeartbeats 4000000 in
theorem t_X12_degree0 {e : mEv} (hG : mGeo (mw0 e) lw_kept) (l : Launch) (N : Nat) {a1 : Int} {σ σ' : mS} {v : Int} (h : f_X12_degree0 N a1 σ = some (v, σ')) : mMet l (mw0 e) lw_kept 2 yX12_degree0 cX12_degree0 6 (some .int) [.inr (.inr (71, 0)), .inl a1] σ (some (.inl v)) σ' := by
  refine mMet_intro (plainFor_of_name (by decide)) hG (Nat.le_of_ble_eq_true rfl) (fun f hl hR C0 hFin => ?_)
  subst hl
  have hFr := mFr_of hR hFin
  unfold f_X12_degree0 at h
  show mWW f (mw0 e) sc0 6 (0, [some (.inr (.inr (71, 0))), some (.inl a1), none, none, none, none], [], σ)
  refine m_blk C0 (pX12_ok rfl) kX12_degree0_ok 0 4 (4, [some (.inr (.inr (71, 0))), some (.inl a1), some (.inl (-1)), some (.inl 0), none, none], [], σ) (Ps := []) rfl trivial ?_
  obtain ⟨⟨o1628, s1627⟩, hq1629, h⟩ := g_bind h
  refine m_mask [true, true, true, true, false, false] (ls' := [some (.inr (.inr (71, 0))), some (.inl a1), some (.inl (-1)), some (.inl 0), none, none]) rfl ?_
  refine p_X12_degree0_4 hG N C0 hFr N _ _ _ _ _ _ hq1629 ?_
  refine m_blk C0 (pX12_ok rfl) kX12_degree0_ok 49 1 (88, [none, none, some (.inl o1628), none, none, none], [.inl o1628], s1627) (Ps := []) rfl trivial ?_
  cases h
  exact m_iret C0 hFin (k_at kX12_degree0_ok 50 rfl) (Or.inl rfl)
