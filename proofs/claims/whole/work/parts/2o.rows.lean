set_option maxRecDepth 100000 in
set_option maxHeartbeats 4000000 in
theorem t_X12_degree {e : mEv} (hG : mGeo (mw0 e) lw_kept) (l : Launch) (N : Nat) {a1 : Int} {σ σ' : mS} {v : Int} (h : f_X12_degree N a1 σ = some (v, σ')) : mMet l (mw0 e) lw_kept 3 yX12_degree cX12_degree 2 (some .int) [.inr (.inr (71, 0)), .inl a1] σ (some (.inl v)) σ' := by
  refine mMet_intro (plainFor_of_name (by decide)) hG (Nat.le_of_ble_eq_true rfl) (fun f hl hR C0 hFin => ?_)
  subst hl
  have hFr := mFr_of hR hFin
  unfold f_X12_degree at h
  show mWW f (mw0 e) sc0 2 (0, [some (.inr (.inr (71, 0))), some (.inl a1)], [], σ)
  refine m_blk C0 (pX12_ok rfl) kX12_degree_ok 0 1 (1, [some (.inr (.inr (71, 0))), some (.inl a1)], [.inl a1], σ) (Ps := []) rfl trivial ?_
  obtain ⟨⟨v1612, s1611⟩, hq1634, h⟩ := g_bind h
  refine c_S (rest := []) C0 hFr (t_X12_isPoly hG f.2.1 N hq1634) lk_X12_184 (k_at kX12_degree_ok 1 rfl) rfl rfl rfl (by decide) (by decide) (Nat.le_of_ble_eq_true rfl) ?_
  refine b_eq C0 kX12_degree_ok 2 (off := 11) (tgt := 15) rfl (by decide) (fun hb1633 => ?_) (fun hb1633 => ?_)
  · replace h := g_pos hb1633 h
    refine m_blk C0 (pX12_ok rfl) kX12_degree_ok 7 1 (16, [some (.inr (.inr (71, 0))), some (.inl a1)], [.inl (-1)], s1611) (Ps := []) rfl trivial ?_
    cases h
    exact m_iret C0 hFin (k_at kX12_degree_ok 8 rfl) (Or.inl rfl)
  · replace h := g_neg hb1633 h
    refine m_blk C0 (pX12_ok rfl) kX12_degree_ok 3 2 (9, [some (.inr (.inr (71, 0))), some (.inl a1)], [.inl a1, .inr (.inr (71, 0))], s1611) (Ps := []) rfl trivial ?_
    obtain ⟨⟨v1631, s1630⟩, hq1632, h⟩ := g_bind h
    refine c_V (rest := []) C0 hFr (t_X12_degree0 hG f.2.1 N hq1632) lk_X12_197 (k_at kX12_degree_ok 5 rfl) rfl rfl rfl rfl ⟨_, _, rfl⟩ (by decide) (by decide) (Nat.le_of_ble_eq_true rfl) ?_
    refine m_blk C0 (pX12_ok rfl) kX12_degree_ok 6 1 (16, [some (.inr (.inr (71, 0))), some (.inl a1)], [.inl v1631], s1630) (Ps := []) rfl trivial ?_
    cases h
    exact m_iret C0 hFin (k_at kX12_degree_ok 8 rfl) (Or.inl rfl)
set_option maxRecDepth 100000 in
set_option maxHeartbeats 4000000 in
theorem p_X12_sum_28 {e : mEv} (hG : mGeo (mw0 e) lw_kept) (N : Nat) {f : mFx} (C0 : mCx f (mw0 e) sc0 cX12_sum 7 RX12 lw_kept) (hFr : mFr f 3) : ∀ (n : Nat) (x1 : Int) (x2 : Int) (x3 : Int) (x4 : Int) (x5 : Int) (x6 : Int) (σ : mS) (σ' : mS), L_X12_sum_28 N n x1 x2 x3 x4 x5 x6 σ = some σ' → mWW f (mw0 e) sc0 7 (103, [some (.inr (.inr (71, 0))), some (.inl x1), none, none, none, none, none], [], σ') → mWW f (mw0 e) sc0 7 (28, [some (.inr (.inr (71, 0))), some (.inl x1), some (.inl x2), some (.inl x3), some (.inl x4), some (.inl x5), some (.inl x6)], [], σ) := by
  intro n
  induction n with
  | zero =>
    intro x1 x2 x3 x4 x5 x6 σ σ' h hK
    cases h
  | succ n IH =>
    intro x1 x2 x3 x4 x5 x6 σ σ' h hK
    rw [L_X12_sum_28_s] at h
    refine m_blk C0 (pX12_ok rfl) kX12_sum_ok 13 2 (33, [some (.inr (.inr (71, 0))), some (.inl x1), some (.inl x2), some (.inl x3), some (.inl x4), some (.inl x5), some (.inl x6)], [.inl 729, .inl x6], σ) (Ps := []) rfl trivial ?_
    refine b_ige C0 kX12_sum_ok 15 (off := 70) (tgt := 103) rfl (by decide) (fun hb1650 => ?_) (fun hb1650 => ?_)
    · replace h := g_pos hb1650 h
      cases h
      refine m_mask [true, true, false, false, false, false, false] (ls' := [some (.inr (.inr (71, 0))), some (.inl x1), none, none, none, none, none]) rfl ?_
      exact hK
    · replace h := g_neg hb1650 h
      obtain ⟨hc, h⟩ := g_if h
      refine m_blk C0 (pX12_ok rfl) kX12_sum_ok 16 16 (62, [some (.inr (.inr (71, 0))), some (.inl x1), some (.inl x2), some (.inl x3), some (.inl x4), some (.inl x5), some (.inl x6)], [.inr (.inl (σ 81 0 ((mw ((mw ((729 : Int) * x2)) + x6)).toNat))), .inl (mw ((mw ((729 : Int) * x1)) + x6)), .inr (.inr (81, 0))], σ) (Ps := [0 ≤ (mw ((mw ((729 : Int) * x2)) + x6)) ∧ (mw ((mw ((729 : Int) * x2)) + x6)) < 7290]) rfl (And.intro hc trivial) ?_
      refine m_blk C0 (pX12_ok rfl) kX12_sum_ok 32 2 (64, [some (.inr (.inr (71, 0))), some (.inl x1), some (.inl x2), some (.inl x3), some (.inl x4), some (.inl x5), some (.inl x6)], [.inr (.inl x3), .inr (.inl (σ 81 0 ((mw ((mw ((729 : Int) * x2)) + x6)).toNat))), .inl (mw ((mw ((729 : Int) * x1)) + x6)), .inr (.inr (81, 0))], σ) (Ps := []) rfl trivial ?_
      obtain ⟨⟨v1642, s1641⟩, hq1649, h⟩ := g_bind h
      refine c_S (rest := [.inr (.inl (σ 81 0 ((mw ((mw ((729 : Int) * x2)) + x6)).toNat))), .inl (mw ((mw ((729 : Int) * x1)) + x6)), .inr (.inr (81, 0))]) C0 hFr (t_X12_left hG f.2.1 N hq1649) lk_X12_190 (k_at kX12_sum_ok 34 rfl) rfl rfl rfl (by decide) (by decide) (Nat.le_of_ble_eq_true rfl) ?_
      obtain ⟨hc, h⟩ := g_if h
      refine m_blk C0 (pX12_ok rfl) kX12_sum_ok 35 13 (87, [some (.inr (.inr (71, 0))), some (.inl x1), some (.inl x2), some (.inl x3), some (.inl x4), some (.inl x5), some (.inl x6)], [.inr (.inl x5), .inr (.inl (s1641 81 0 ((mw ((mw ((729 : Int) * x4)) + x6)).toNat))), .inr (.inl (mx ((σ 81 0 ((mw ((mw ((729 : Int) * x2)) + x6)).toNat)) * v1642))), .inl (mw ((mw ((729 : Int) * x1)) + x6)), .inr (.inr (81, 0))], s1641) (Ps := [0 ≤ (mw ((mw ((729 : Int) * x4)) + x6)) ∧ (mw ((mw ((729 : Int) * x4)) + x6)) < 7290]) rfl (And.intro hc trivial) ?_
      obtain ⟨⟨v1644, s1643⟩, hq1648, h⟩ := g_bind h
      refine c_S (rest := [.inr (.inl (s1641 81 0 ((mw ((mw ((729 : Int) * x4)) + x6)).toNat))), .inr (.inl (mx ((σ 81 0 ((mw ((mw ((729 : Int) * x2)) + x6)).toNat)) * v1642))), .inl (mw ((mw ((729 : Int) * x1)) + x6)), .inr (.inr (81, 0))]) C0 hFr (t_X12_left hG f.2.1 N hq1648) lk_X12_190 (k_at kX12_sum_ok 48 rfl) rfl rfl rfl (by decide) (by decide) (Nat.le_of_ble_eq_true rfl) ?_
      refine m_blk C0 (pX12_ok rfl) kX12_sum_ok 49 3 (93, [some (.inr (.inr (71, 0))), some (.inl x1), some (.inl x2), some (.inl x3), some (.inl x4), some (.inl x5), some (.inl x6)], [.inr (.inl (mx ((mx ((σ 81 0 ((mw ((mw ((729 : Int) * x2)) + x6)).toNat)) * v1642)) + (mx ((s1641 81 0 ((mw ((mw ((729 : Int) * x4)) + x6)).toNat)) * v1644))))), .inl (mw ((mw ((729 : Int) * x1)) + x6)), .inr (.inr (81, 0))], s1643) (Ps := []) rfl trivial ?_
      obtain ⟨⟨v1646, s1645⟩, hq1647, h⟩ := g_bind h
      refine c_S (rest := [.inl (mw ((mw ((729 : Int) * x1)) + x6)), .inr (.inr (81, 0))]) C0 hFr (t_X12_left hG f.2.1 N hq1647) lk_X12_190 (k_at kX12_sum_ok 52 rfl) rfl rfl rfl (by decide) (by decide) (Nat.le_of_ble_eq_true rfl) ?_
      obtain ⟨hc, h⟩ := g_if h
      refine m_blk C0 (pX12_ok rfl) kX12_sum_ok 53 1 (97, [some (.inr (.inr (71, 0))), some (.inl x1), some (.inl x2), some (.inl x3), some (.inl x4), some (.inl x5), some (.inl x6)], [], (mup s1645 81 0 ((mw ((mw ((729 : Int) * x1)) + x6)).toNat) v1646)) (Ps := [0 ≤ (mw ((mw ((729 : Int) * x1)) + x6)) ∧ (mw ((mw ((729 : Int) * x1)) + x6)) < 7290]) rfl (And.intro hc trivial) ?_
      refine m_blk C0 (pX12_ok rfl) kX12_sum_ok 54 2 (28, [some (.inr (.inr (71, 0))), some (.inl x1), some (.inl x2), some (.inl x3), some (.inl x4), some (.inl x5), some (.inl (mw (x6 + 1)))], [], (mup s1645 81 0 ((mw ((mw ((729 : Int) * x1)) + x6)).toNat) v1646)) (Ps := []) rfl trivial ?_
      refine m_mask [true, true, true, true, true, true, true] (ls' := [some (.inr (.inr (71, 0))), some (.inl x1), some (.inl x2), some (.inl x3), some (.inl x4), some (.inl x5), some (.inl (mw (x6 + 1)))]) rfl ?_
      exact IH _ _ _ _ _ _ _ _ h hK
set_option maxRecDepth 100000 in
set_option maxHeartbeats 4000000 in
theorem t_X12_sum {e : mEv} (hG : mGeo (mw0 e) lw_kept) (l : Launch) (N : Nat) {a1 : Int} {a2 : Int} {a3 : Int} {a4 : Int} {a5 : Int} {σ σ' : mS} {v : Int} (h : f_X12_sum N a1 a2 a3 a4 a5 σ = some (v, σ')) : mMet l (mw0 e) lw_kept 3 yX12_sum cX12_sum 7 (some .int) [.inr (.inr (71, 0)), .inl a1, .inl a2, .inl a3, .inl a4, .inl a5] σ (some (.inl v)) σ' := by
  refine mMet_intro (plainFor_of_name (by decide)) hG (Nat.le_of_ble_eq_true rfl) (fun f hl hR C0 hFin => ?_)
  subst hl
  have hFr := mFr_of hR hFin
  unfold f_X12_sum at h
  show mWW f (mw0 e) sc0 7 (0, [some (.inr (.inr (71, 0))), some (.inl a1), some (.inl a2), some (.inl a3), some (.inl a4), some (.inl a5), none], [], σ)
  refine m_blk C0 (pX12_ok rfl) kX12_sum_ok 0 1 (1, [some (.inr (.inr (71, 0))), some (.inl a1), some (.inl a2), some (.inl a3), some (.inl a4), some (.inl a5), none], [.inl a1], σ) (Ps := []) rfl trivial ?_
  obtain ⟨⟨v1636, s1635⟩, hq1661, h⟩ := g_bind h
  refine c_S (rest := []) C0 hFr (t_X12_isPoly hG f.2.1 N hq1661) lk_X12_184 (k_at kX12_sum_ok 1 rfl) rfl rfl rfl (by decide) (by decide) (Nat.le_of_ble_eq_true rfl) ?_
  refine b_eq C0 kX12_sum_ok 2 (off := 18) (tgt := 22) rfl (by decide) (fun hb1660 => ?_) (fun hb1660 => ?_)
  · replace h := g_pos hb1660 h
    refine m_blk C0 (pX12_ok rfl) kX12_sum_ok 9 1 (24, [some (.inr (.inr (71, 0))), some (.inl a1), some (.inl a2), some (.inl a3), some (.inl a4), some (.inl a5), none], [.inl (-2)], s1635) (Ps := []) rfl trivial ?_
    cases h
    exact m_iret C0 hFin (k_at kX12_sum_ok 10 rfl) (Or.inl rfl)
  · replace h := g_neg hb1660 h
    refine m_blk C0 (pX12_ok rfl) kX12_sum_ok 3 1 (8, [some (.inr (.inr (71, 0))), some (.inl a1), some (.inl a2), some (.inl a3), some (.inl a4), some (.inl a5), none], [.inl a2], s1635) (Ps := []) rfl trivial ?_
    obtain ⟨⟨v1638, s1637⟩, hq1659, h⟩ := g_bind h
    refine c_S (rest := []) C0 hFr (t_X12_isPoly hG f.2.1 N hq1659) lk_X12_184 (k_at kX12_sum_ok 4 rfl) rfl rfl rfl (by decide) (by decide) (Nat.le_of_ble_eq_true rfl) ?_
    refine b_eq C0 kX12_sum_ok 5 (off := 11) (tgt := 22) rfl (by decide) (fun hb1658 => ?_) (fun hb1658 => ?_)
    · replace h := g_pos hb1658 h
      refine m_blk C0 (pX12_ok rfl) kX12_sum_ok 9 1 (24, [some (.inr (.inr (71, 0))), some (.inl a1), some (.inl a2), some (.inl a3), some (.inl a4), some (.inl a5), none], [.inl (-2)], s1637) (Ps := []) rfl trivial ?_
      cases h
      exact m_iret C0 hFin (k_at kX12_sum_ok 10 rfl) (Or.inl rfl)
    · replace h := g_neg hb1658 h
      refine m_blk C0 (pX12_ok rfl) kX12_sum_ok 6 1 (16, [some (.inr (.inr (71, 0))), some (.inl a1), some (.inl a2), some (.inl a3), some (.inl a4), some (.inl a5), none], [.inl a4], s1637) (Ps := []) rfl trivial ?_
      obtain ⟨⟨v1640, s1639⟩, hq1657, h⟩ := g_bind h
      refine c_S (rest := []) C0 hFr (t_X12_isPoly hG f.2.1 N hq1657) lk_X12_184 (k_at kX12_sum_ok 7 rfl) rfl rfl rfl (by decide) (by decide) (Nat.le_of_ble_eq_true rfl) ?_
      refine b_ne C0 kX12_sum_ok 8 (off := 6) (tgt := 25) rfl (by decide) (fun hb1656 => ?_) (fun hb1656 => ?_)
      · replace h := g_neg hb1656 h
        refine m_blk C0 (pX12_ok rfl) kX12_sum_ok 11 2 (28, [some (.inr (.inr (71, 0))), some (.inl a1), some (.inl a2), some (.inl a3), some (.inl a4), some (.inl a5), some (.inl 0)], [], s1639) (Ps := []) rfl trivial ?_
        obtain ⟨s1651, hq1655, h⟩ := g_bind h
        refine m_mask [true, true, true, true, true, true, true] (ls' := [some (.inr (.inr (71, 0))), some (.inl a1), some (.inl a2), some (.inl a3), some (.inl a4), some (.inl a5), some (.inl 0)]) rfl ?_
        refine p_X12_sum_28 hG N C0 hFr N _ _ _ _ _ _ _ _ hq1655 ?_
        refine m_blk C0 (pX12_ok rfl) kX12_sum_ok 56 2 (105, [some (.inr (.inr (71, 0))), some (.inl a1), none, none, none, none, none], [.inl a1, .inr (.inr (71, 0))], s1651) (Ps := []) rfl trivial ?_
        obtain ⟨⟨v1653, s1652⟩, hq1654, h⟩ := g_bind h
        refine c_V (rest := []) C0 hFr (t_X12_degree0 hG f.2.1 N hq1654) lk_X12_197 (k_at kX12_sum_ok 58 rfl) rfl rfl rfl rfl ⟨_, _, rfl⟩ (by decide) (by decide) (Nat.le_of_ble_eq_true rfl) ?_
        cases h
        exact m_iret C0 hFin (k_at kX12_sum_ok 59 rfl) (Or.inl rfl)
      · replace h := g_pos hb1656 h
        refine m_blk C0 (pX12_ok rfl) kX12_sum_ok 9 1 (24, [some (.inr (.inr (71, 0))), some (.inl a1), some (.inl a2), some (.inl a3), some (.inl a4), some (.inl a5), none], [.inl (-2)], s1639) (Ps := []) rfl trivial ?_
        cases h
        exact m_iret C0 hFin (k_at kX12_sum_ok 10 rfl) (Or.inl rfl)
set_option maxRecDepth 100000 in
set_option maxHeartbeats 4000000 in
theorem p_X12_multiply_42 {e : mEv} (hG : mGeo (mw0 e) lw_kept) (N : Nat) {f : mFx} (C0 : mCx f (mw0 e) sc0 cX12_multiply 9 RX12 lw_kept) (hFr : mFr f 1) : ∀ (n : Nat) (x1 : Int) (x2 : Int) (x3 : Int) (x4 : Int) (x5 : Int) (x6 : Int) (σ : mS) (σ' : mS), L_X12_multiply_42 N n x1 x2 x3 x4 x5 x6 σ = some σ' → mWW f (mw0 e) sc0 9 (118, [some (.inr (.inr (71, 0))), some (.inl x1), some (.inl x2), some (.inl x3), some (.inl x4), none, none, none, none], [], σ') → mWW f (mw0 e) sc0 9 (42, [some (.inr (.inr (71, 0))), some (.inl x1), some (.inl x2), some (.inl x3), some (.inl x4), some (.inl x5), some (.inl x6), none, none], [], σ) := by
  intro n
  induction n with
  | zero =>
    intro x1 x2 x3 x4 x5 x6 σ σ' h hK
    cases h
  | succ n IH =>
    intro x1 x2 x3 x4 x5 x6 σ σ' h hK
    rw [L_X12_multiply_42_s] at h
    refine m_blk C0 (pX12_ok rfl) kX12_multiply_ok 22 2 (47, [some (.inr (.inr (71, 0))), some (.inl x1), some (.inl x2), some (.inl x3), some (.inl x4), some (.inl x5), some (.inl x6), none, none], [.inl 729, .inl x6], σ) (Ps := []) rfl trivial ?_
    refine b_ige C0 kX12_multiply_ok 24 (off := 71) (tgt := 118) rfl (by decide) (fun hb1677 => ?_) (fun hb1677 => ?_)
    · replace h := g_pos hb1677 h
      cases h
      refine m_mask [true, true, true, true, true, false, false, false, false] (ls' := [some (.inr (.inr (71, 0))), some (.inl x1), some (.inl x2), some (.inl x3), some (.inl x4), none, none, none, none]) rfl ?_
      exact hK
    · replace h := g_neg hb1677 h
      obtain ⟨hc, h⟩ := g_if h
      refine m_blk C0 (pX12_ok rfl) kX12_multiply_ok 25 10 (67, [some (.inr (.inr (71, 0))), some (.inl x1), some (.inl x2), some (.inl x3), some (.inl x4), some (.inl x5), some (.inl x6), some (.inl (σ 81 0 ((mw ((mw ((729 : Int) * x3)) + x6)).toNat))), none], [.inl (σ 81 0 ((mw ((mw ((729 : Int) * x3)) + x6)).toNat))], σ) (Ps := [0 ≤ (mw ((mw ((729 : Int) * x3)) + x6)) ∧ (mw ((mw ((729 : Int) * x3)) + x6)) < 7290]) rfl (And.intro hc trivial) ?_
      refine b_ne C0 kX12_multiply_ok 35 (off := 6) (tgt := 73) rfl (by decide) (fun hb1676 => ?_) (fun hb1676 => ?_)
      · replace h := g_neg hb1676 h
        obtain ⟨hc, h⟩ := g_if h
        refine m_blk C0 (pX12_ok rfl) kX12_multiply_ok 37 16 (100, [some (.inr (.inr (71, 0))), some (.inl x1), some (.inl x2), some (.inl x3), some (.inl x4), some (.inl x5), some (.inl x6), some (.inl (σ 81 0 ((mw ((mw ((729 : Int) * x3)) + x6)).toNat))), some (.inl (mw ((mw ((mw ((729 : Int) * x1)) + x4)) + x6)))], [.inr (.inl (σ 81 0 ((mw ((mw ((mw ((729 : Int) * x1)) + x4)) + x6)).toNat))), .inl (mw ((mw ((mw ((729 : Int) * x1)) + x4)) + x6)), .inr (.inr (81, 0))], σ) (Ps := [0 ≤ (mw ((mw ((mw ((729 : Int) * x1)) + x4)) + x6)) ∧ (mw ((mw ((mw ((729 : Int) * x1)) + x4)) + x6)) < 7290]) rfl (And.intro hc trivial) ?_
        refine m_blk C0 (pX12_ok rfl) kX12_multiply_ok 53 6 (108, [some (.inr (.inr (71, 0))), some (.inl x1), some (.inl x2), some (.inl x3), some (.inl x4), some (.inl x5), some (.inl x6), some (.inl (σ 81 0 ((mw ((mw ((729 : Int) * x3)) + x6)).toNat))), some (.inl (mw ((mw ((mw ((729 : Int) * x1)) + x4)) + x6)))], [.inr (.inl (mx ((σ 81 0 ((mw ((mw ((mw ((729 : Int) * x1)) + x4)) + x6)).toNat)) + (mx (x5 * (σ 81 0 ((mw ((mw ((729 : Int) * x3)) + x6)).toNat))))))), .inl (mw ((mw ((mw ((729 : Int) * x1)) + x4)) + x6)), .inr (.inr (81, 0))], σ) (Ps := []) rfl trivial ?_
        obtain ⟨⟨v1674, s1673⟩, hq1675, h⟩ := g_bind h
        refine c_S (rest := [.inl (mw ((mw ((mw ((729 : Int) * x1)) + x4)) + x6)), .inr (.inr (81, 0))]) C0 hFr (t_X12_left hG f.2.1 N hq1675) lk_X12_190 (k_at kX12_multiply_ok 59 rfl) rfl rfl rfl (by decide) (by decide) (Nat.le_of_ble_eq_true rfl) ?_
        obtain ⟨hc, h⟩ := g_if h
        refine m_blk C0 (pX12_ok rfl) kX12_multiply_ok 60 1 (112, [some (.inr (.inr (71, 0))), some (.inl x1), some (.inl x2), some (.inl x3), some (.inl x4), some (.inl x5), some (.inl x6), some (.inl (σ 81 0 ((mw ((mw ((729 : Int) * x3)) + x6)).toNat))), some (.inl (mw ((mw ((mw ((729 : Int) * x1)) + x4)) + x6)))], [], (mup s1673 81 0 ((mw ((mw ((mw ((729 : Int) * x1)) + x4)) + x6)).toNat) v1674)) (Ps := [0 ≤ (mw ((mw ((mw ((729 : Int) * x1)) + x4)) + x6)) ∧ (mw ((mw ((mw ((729 : Int) * x1)) + x4)) + x6)) < 7290]) rfl (And.intro hc trivial) ?_
        refine m_blk C0 (pX12_ok rfl) kX12_multiply_ok 61 2 (42, [some (.inr (.inr (71, 0))), some (.inl x1), some (.inl x2), some (.inl x3), some (.inl x4), some (.inl x5), some (.inl (mw (x6 + 1))), some (.inl (σ 81 0 ((mw ((mw ((729 : Int) * x3)) + x6)).toNat))), some (.inl (mw ((mw ((mw ((729 : Int) * x1)) + x4)) + x6)))], [], (mup s1673 81 0 ((mw ((mw ((mw ((729 : Int) * x1)) + x4)) + x6)).toNat) v1674)) (Ps := []) rfl trivial ?_
        refine m_mask [true, true, true, true, true, true, true, false, false] (ls' := [some (.inr (.inr (71, 0))), some (.inl x1), some (.inl x2), some (.inl x3), some (.inl x4), some (.inl x5), some (.inl (mw (x6 + 1))), none, none]) rfl ?_
        exact IH _ _ _ _ _ _ _ _ h hK
      · replace h := g_pos hb1676 h
        refine m_blk C0 (pX12_ok rfl) kX12_multiply_ok 36 1 (112, [some (.inr (.inr (71, 0))), some (.inl x1), some (.inl x2), some (.inl x3), some (.inl x4), some (.inl x5), some (.inl x6), some (.inl (σ 81 0 ((mw ((mw ((729 : Int) * x3)) + x6)).toNat))), none], [], σ) (Ps := []) rfl trivial ?_
        refine m_blk C0 (pX12_ok rfl) kX12_multiply_ok 61 2 (42, [some (.inr (.inr (71, 0))), some (.inl x1), some (.inl x2), some (.inl x3), some (.inl x4), some (.inl x5), some (.inl (mw (x6 + 1))), some (.inl (σ 81 0 ((mw ((mw ((729 : Int) * x3)) + x6)).toNat))), none], [], σ) (Ps := []) rfl trivial ?_
        refine m_mask [true, true, true, true, true, true, true, false, false] (ls' := [some (.inr (.inr (71, 0))), some (.inl x1), some (.inl x2), some (.inl x3), some (.inl x4), some (.inl x5), some (.inl (mw (x6 + 1))), none, none]) rfl ?_
        exact IH _ _ _ _ _ _ _ _ h hK
set_option maxRecDepth 100000 in
set_option maxHeartbeats 4000000 in
theorem p_X12_multiply_8 {e : mEv} (hG : mGeo (mw0 e) lw_kept) (N : Nat) {f : mFx} (C0 : mCx f (mw0 e) sc0 cX12_multiply 9 RX12 lw_kept) (hFr : mFr f 1) : ∀ (n : Nat) (x1 : Int) (x2 : Int) (x3 : Int) (x4 : Int) (σ : mS) (σ' : mS), L_X12_multiply_8 N n x1 x2 x3 x4 σ = some σ' → mWW f (mw0 e) sc0 9 (124, [none, none, none, none, none, none, none, none, none], [], σ') → mWW f (mw0 e) sc0 9 (8, [some (.inr (.inr (71, 0))), some (.inl x1), some (.inl x2), some (.inl x3), some (.inl x4), none, none, none, none], [], σ) := by
  intro n
  induction n with
  | zero =>
    intro x1 x2 x3 x4 σ σ' h hK
    cases h
  | succ n IH =>
    intro x1 x2 x3 x4 σ σ' h hK
    rw [L_X12_multiply_8_s] at h
    refine m_blk C0 (pX12_ok rfl) kX12_multiply_ok 5 2 (13, [some (.inr (.inr (71, 0))), some (.inl x1), some (.inl x2), some (.inl x3), some (.inl x4), none, none, none, none], [.inl 729, .inl x4], σ) (Ps := []) rfl trivial ?_
    refine b_ige C0 kX12_multiply_ok 7 (off := 111) (tgt := 124) rfl (by decide) (fun hb1681 => ?_) (fun hb1681 => ?_)
    · replace h := g_pos hb1681 h
      cases h
      refine m_mask [false, false, false, false, false, false, false, false, false] (ls' := [none, none, none, none, none, none, none, none, none]) rfl ?_
      exact hK
    · replace h := g_neg hb1681 h
      obtain ⟨hc, h⟩ := g_if h
      refine m_blk C0 (pX12_ok rfl) kX12_multiply_ok 8 10 (33, [some (.inr (.inr (71, 0))), some (.inl x1), some (.inl x2), some (.inl x3), some (.inl x4), some (.inl (σ 81 0 ((mw ((mw ((729 : Int) * x2)) + x4)).toNat))), none, none, none], [.inl (σ 81 0 ((mw ((mw ((729 : Int) * x2)) + x4)).toNat))], σ) (Ps := [0 ≤ (mw ((mw ((729 : Int) * x2)) + x4)) ∧ (mw ((mw ((729 : Int) * x2)) + x4)) < 7290]) rfl (And.intro hc trivial) ?_
      refine b_ne C0 kX12_multiply_ok 18 (off := 6) (tgt := 39) rfl (by decide) (fun hb1680 => ?_) (fun hb1680 => ?_)
      · replace h := g_neg hb1680 h
        refine m_blk C0 (pX12_ok rfl) kX12_multiply_ok 20 2 (42, [some (.inr (.inr (71, 0))), some (.inl x1), some (.inl x2), some (.inl x3), some (.inl x4), some (.inl (σ 81 0 ((mw ((mw ((729 : Int) * x2)) + x4)).toNat))), some (.inl 0), none, none], [], σ) (Ps := []) rfl trivial ?_
        obtain ⟨s1678, hq1679, h⟩ := g_bind h
        refine m_mask [true, true, true, true, true, true, true, false, false] (ls' := [some (.inr (.inr (71, 0))), some (.inl x1), some (.inl x2), some (.inl x3), some (.inl x4), some (.inl (σ 81 0 ((mw ((mw ((729 : Int) * x2)) + x4)).toNat))), some (.inl 0), none, none]) rfl ?_
        refine p_X12_multiply_42 hG N C0 hFr N _ _ _ _ _ _ _ _ hq1679 ?_
        refine m_blk C0 (pX12_ok rfl) kX12_multiply_ok 63 2 (8, [some (.inr (.inr (71, 0))), some (.inl x1), some (.inl x2), some (.inl x3), some (.inl (mw (x4 + 1))), none, none, none, none], [], s1678) (Ps := []) rfl trivial ?_
        refine m_mask [true, true, true, true, true, false, false, false, false] (ls' := [some (.inr (.inr (71, 0))), some (.inl x1), some (.inl x2), some (.inl x3), some (.inl (mw (x4 + 1))), none, none, none, none]) rfl ?_
        exact IH _ _ _ _ _ _ h hK
      · replace h := g_pos hb1680 h
        refine m_blk C0 (pX12_ok rfl) kX12_multiply_ok 19 1 (118, [some (.inr (.inr (71, 0))), some (.inl x1), some (.inl x2), some (.inl x3), some (.inl x4), some (.inl (σ 81 0 ((mw ((mw ((729 : Int) * x2)) + x4)).toNat))), none, none, none], [], σ) (Ps := []) rfl trivial ?_
        refine m_blk C0 (pX12_ok rfl) kX12_multiply_ok 63 2 (8, [some (.inr (.inr (71, 0))), some (.inl x1), some (.inl x2), some (.inl x3), some (.inl (mw (x4 + 1))), some (.inl (σ 81 0 ((mw ((mw ((729 : Int) * x2)) + x4)).toNat))), none, none, none], [], σ) (Ps := []) rfl trivial ?_
        refine m_mask [true, true, true, true, true, false, false, false, false] (ls' := [some (.inr (.inr (71, 0))), some (.inl x1), some (.inl x2), some (.inl x3), some (.inl (mw (x4 + 1))), none, none, none, none]) rfl ?_
        exact IH _ _ _ _ _ _ h hK
set_option maxRecDepth 100000 in
set_option maxHeartbeats 4000000 in
theorem t_X12_multiply {e : mEv} (hG : mGeo (mw0 e) lw_kept) (l : Launch) (N : Nat) {a1 : Int} {a2 : Int} {a3 : Int} {σ σ' : mS} (h : f_X12_multiply N a1 a2 a3 σ = some σ') : mMet l (mw0 e) lw_kept 1 yX12_multiply cX12_multiply 9 none [.inr (.inr (71, 0)), .inl a1, .inl a2, .inl a3] σ none σ' := by
  refine mMet_intro (plainFor_of_name (by decide)) hG (Nat.le_of_ble_eq_true rfl) (fun f hl hR C0 hFin => ?_)
  subst hl
  have hFr := mFr_of hR hFin
  unfold f_X12_multiply at h
  show mWW f (mw0 e) sc0 9 (0, [some (.inr (.inr (71, 0))), some (.inl a1), some (.inl a2), some (.inl a3), none, none, none, none, none], [], σ)
  refine m_blk C0 (pX12_ok rfl) kX12_multiply_ok 0 2 (2, [some (.inr (.inr (71, 0))), some (.inl a1), some (.inl a2), some (.inl a3), none, none, none, none, none], [.inl a1, .inr (.inr (71, 0))], σ) (Ps := []) rfl trivial ?_
  obtain ⟨s1672, hq1684, h⟩ := g_bind h
  refine c_V (rest := []) C0 hFr (t_X12_clear hG f.2.1 N hq1684) lk_X12_200 (k_at kX12_multiply_ok 2 rfl) rfl rfl rfl rfl ⟨_, _, rfl⟩ (by decide) (by decide) (Nat.le_of_ble_eq_true rfl) ?_
  refine m_blk C0 (pX12_ok rfl) kX12_multiply_ok 3 2 (8, [some (.inr (.inr (71, 0))), some (.inl a1), some (.inl a2), some (.inl a3), some (.inl 0), none, none, none, none], [], s1672) (Ps := []) rfl trivial ?_
  obtain ⟨s1682, hq1683, h⟩ := g_bind h
  refine m_mask [true, true, true, true, true, false, false, false, false] (ls' := [some (.inr (.inr (71, 0))), some (.inl a1), some (.inl a2), some (.inl a3), some (.inl 0), none, none, none, none]) rfl ?_
  refine p_X12_multiply_8 hG N C0 hFr N _ _ _ _ _ _ hq1683 ?_
  cases h
  exact m_vret C0 hFin (k_at kX12_multiply_ok 65 rfl)
set_option maxRecDepth 100000 in
set_option maxHeartbeats 4000000 in
theorem t_X12_product_ {e : mEv} (hG : mGeo (mw0 e) lw_kept) (l : Launch) (N : Nat) {a1 : Int} {a2 : Int} {a3 : Int} {σ σ' : mS} {v : Int} (h : f_X12_product_ N a1 a2 a3 σ = some (v, σ')) : mMet l (mw0 e) lw_kept 3 yX12_product_ cX12_product_ 4 (some .int) [.inr (.inr (71, 0)), .inl a1, .inl a2, .inl a3] σ (some (.inl v)) σ' := by
  refine mMet_intro (plainFor_of_name (by decide)) hG (Nat.le_of_ble_eq_true rfl) (fun f hl hR C0 hFin => ?_)
  subst hl
  have hFr := mFr_of hR hFin
  unfold f_X12_product_ at h
  show mWW f (mw0 e) sc0 4 (0, [some (.inr (.inr (71, 0))), some (.inl a1), some (.inl a2), some (.inl a3)], [], σ)
  refine m_blk C0 (pX12_ok rfl) kX12_product__ok 0 1 (1, [some (.inr (.inr (71, 0))), some (.inl a1), some (.inl a2), some (.inl a3)], [.inl a1], σ) (Ps := []) rfl trivial ?_
  obtain ⟨⟨v1663, s1662⟩, hq1722, h⟩ := g_bind h
  refine c_S (rest := []) C0 hFr (t_X12_isPoly hG f.2.1 N hq1722) lk_X12_184 (k_at kX12_product__ok 1 rfl) rfl rfl rfl (by decide) (by decide) (Nat.le_of_ble_eq_true rfl) ?_
  refine b_eq C0 kX12_product__ok 2 (off := 49) (tgt := 53) rfl (by decide) (fun hb1721 => ?_) (fun hb1721 => ?_)
  · replace h := g_pos hb1721 h
    refine m_blk C0 (pX12_ok rfl) kX12_product__ok 26 1 (55, [some (.inr (.inr (71, 0))), some (.inl a1), some (.inl a2), some (.inl a3)], [.inl (-2)], s1662) (Ps := []) rfl trivial ?_
    cases h
    exact m_iret C0 hFin (k_at kX12_product__ok 27 rfl) (Or.inl rfl)
  · replace h := g_neg hb1721 h
    refine m_blk C0 (pX12_ok rfl) kX12_product__ok 3 1 (8, [some (.inr (.inr (71, 0))), some (.inl a1), some (.inl a2), some (.inl a3)], [.inl a2], s1662) (Ps := []) rfl trivial ?_
    obtain ⟨⟨v1665, s1664⟩, hq1720, h⟩ := g_bind h
    refine c_S (rest := []) C0 hFr (t_X12_isPoly hG f.2.1 N hq1720) lk_X12_184 (k_at kX12_product__ok 4 rfl) rfl rfl rfl (by decide) (by decide) (Nat.le_of_ble_eq_true rfl) ?_
    refine b_eq C0 kX12_product__ok 5 (off := 42) (tgt := 53) rfl (by decide) (fun hb1719 => ?_) (fun hb1719 => ?_)
    · replace h := g_pos hb1719 h
      refine m_blk C0 (pX12_ok rfl) kX12_product__ok 26 1 (55, [some (.inr (.inr (71, 0))), some (.inl a1), some (.inl a2), some (.inl a3)], [.inl (-2)], s1664) (Ps := []) rfl trivial ?_
      cases h
      exact m_iret C0 hFin (k_at kX12_product__ok 27 rfl) (Or.inl rfl)
    · replace h := g_neg hb1719 h
      refine m_blk C0 (pX12_ok rfl) kX12_product__ok 6 1 (15, [some (.inr (.inr (71, 0))), some (.inl a1), some (.inl a2), some (.inl a3)], [.inl a3], s1664) (Ps := []) rfl trivial ?_
      obtain ⟨⟨v1667, s1666⟩, hq1718, h⟩ := g_bind h
      refine c_S (rest := []) C0 hFr (t_X12_isPoly hG f.2.1 N hq1718) lk_X12_184 (k_at kX12_product__ok 7 rfl) rfl rfl rfl (by decide) (by decide) (Nat.le_of_ble_eq_true rfl) ?_
      refine b_eq C0 kX12_product__ok 8 (off := 35) (tgt := 53) rfl (by decide) (fun hb1717 => ?_) (fun hb1717 => ?_)
      · replace h := g_pos hb1717 h
        refine m_blk C0 (pX12_ok rfl) kX12_product__ok 26 1 (55, [some (.inr (.inr (71, 0))), some (.inl a1), some (.inl a2), some (.inl a3)], [.inl (-2)], s1666) (Ps := []) rfl trivial ?_
        cases h
        exact m_iret C0 hFin (k_at kX12_product__ok 27 rfl) (Or.inl rfl)
      · replace h := g_neg hb1717 h
        refine m_blk C0 (pX12_ok rfl) kX12_product__ok 9 2 (23, [some (.inr (.inr (71, 0))), some (.inl a1), some (.inl a2), some (.inl a3)], [.inl a2, .inr (.inr (71, 0))], s1666) (Ps := []) rfl trivial ?_
        obtain ⟨⟨v1669, s1668⟩, hq1716, h⟩ := g_bind h
        refine c_V (rest := []) C0 hFr (t_X12_degree0 hG f.2.1 N hq1716) lk_X12_197 (k_at kX12_product__ok 11 rfl) rfl rfl rfl rfl ⟨_, _, rfl⟩ (by decide) (by decide) (Nat.le_of_ble_eq_true rfl) ?_
        refine m_blk C0 (pX12_ok rfl) kX12_product__ok 12 2 (28, [some (.inr (.inr (71, 0))), some (.inl a1), some (.inl a2), some (.inl a3)], [.inl a3, .inr (.inr (71, 0)), .inl v1669], s1668) (Ps := []) rfl trivial ?_
        obtain ⟨⟨v1671, s1670⟩, hq1715, h⟩ := g_bind h
        refine c_V (rest := [.inl v1669]) C0 hFr (t_X12_degree0 hG f.2.1 N hq1715) lk_X12_197 (k_at kX12_product__ok 14 rfl) rfl rfl rfl rfl ⟨_, _, rfl⟩ (by decide) (by decide) (Nat.le_of_ble_eq_true rfl) ?_
        refine m_blk C0 (pX12_ok rfl) kX12_product__ok 15 2 (34, [some (.inr (.inr (71, 0))), some (.inl a1), some (.inl a2), some (.inl a3)], [.inl 8, .inl (mw (v1669 + v1671))], s1670) (Ps := []) rfl trivial ?_
        refine b_ile C0 kX12_product__ok 17 (off := 22) (tgt := 56) rfl (by decide) (fun hb1714 => ?_) (fun hb1714 => ?_)
        · replace h := g_pos hb1714 h
          refine m_blk C0 (pX12_ok rfl) kX12_product__ok 28 4 (61, [some (.inr (.inr (71, 0))), some (.inl a1), some (.inl a2), some (.inl a3)], [.inl a3, .inl a2, .inl 8, .inr (.inr (71, 0))], s1670) (Ps := []) rfl trivial ?_
          obtain ⟨s1685, hq1691, h⟩ := g_bind h
          refine c_V (rest := []) C0 hFr (t_X12_multiply hG f.2.1 N hq1691) lk_X12_204 (k_at kX12_product__ok 32 rfl) rfl rfl rfl rfl ⟨_, _, rfl⟩ (by decide) (by decide) (Nat.le_of_ble_eq_true rfl) ?_
          refine m_blk C0 (pX12_ok rfl) kX12_product__ok 33 3 (68, [some (.inr (.inr (71, 0))), some (.inl a1), some (.inl a2), some (.inl a3)], [.inl a1, .inl 8, .inr (.inr (71, 0))], s1685) (Ps := []) rfl trivial ?_
          obtain ⟨s1686, hq1690, h⟩ := g_bind h
          refine c_V (rest := []) C0 hFr (t_X12_copy hG f.2.1 N hq1690) lk_X12_208 (k_at kX12_product__ok 36 rfl) rfl rfl rfl rfl ⟨_, _, rfl⟩ (by decide) (by decide) (Nat.le_of_ble_eq_true rfl) ?_
          refine m_blk C0 (pX12_ok rfl) kX12_product__ok 37 2 (73, [some (.inr (.inr (71, 0))), some (.inl a1), some (.inl a2), some (.inl a3)], [.inl a1, .inr (.inr (71, 0))], s1686) (Ps := []) rfl trivial ?_
          obtain ⟨⟨v1688, s1687⟩, hq1689, h⟩ := g_bind h
          refine c_V (rest := []) C0 hFr (t_X12_degree0 hG f.2.1 N hq1689) lk_X12_197 (k_at kX12_product__ok 39 rfl) rfl rfl rfl rfl ⟨_, _, rfl⟩ (by decide) (by decide) (Nat.le_of_ble_eq_true rfl) ?_
          cases h
          exact m_iret C0 hFin (k_at kX12_product__ok 40 rfl) (Or.inl rfl)
        · replace h := g_neg hb1714 h
          refine m_blk C0 (pX12_ok rfl) kX12_product__ok 18 2 (39, [some (.inr (.inr (71, 0))), some (.inl a1), some (.inl a2), some (.inl a3)], [.inl a2, .inr (.inr (71, 0))], s1670) (Ps := []) rfl trivial ?_
          obtain ⟨⟨v1693, s1692⟩, hq1713, h⟩ := g_bind h
          refine c_V (rest := []) C0 hFr (t_X12_degree0 hG f.2.1 N hq1713) lk_X12_197 (k_at kX12_product__ok 20 rfl) rfl rfl rfl rfl ⟨_, _, rfl⟩ (by decide) (by decide) (Nat.le_of_ble_eq_true rfl) ?_
          refine b_lt C0 kX12_product__ok 21 (off := 14) (tgt := 56) rfl (by decide) (fun hb1712 => ?_) (fun hb1712 => ?_)
          · replace h := g_pos hb1712 h
            refine m_blk C0 (pX12_ok rfl) kX12_product__ok 28 4 (61, [some (.inr (.inr (71, 0))), some (.inl a1), some (.inl a2), some (.inl a3)], [.inl a3, .inl a2, .inl 8, .inr (.inr (71, 0))], s1692) (Ps := []) rfl trivial ?_
            obtain ⟨s1694, hq1700, h⟩ := g_bind h
            refine c_V (rest := []) C0 hFr (t_X12_multiply hG f.2.1 N hq1700) lk_X12_204 (k_at kX12_product__ok 32 rfl) rfl rfl rfl rfl ⟨_, _, rfl⟩ (by decide) (by decide) (Nat.le_of_ble_eq_true rfl) ?_
            refine m_blk C0 (pX12_ok rfl) kX12_product__ok 33 3 (68, [some (.inr (.inr (71, 0))), some (.inl a1), some (.inl a2), some (.inl a3)], [.inl a1, .inl 8, .inr (.inr (71, 0))], s1694) (Ps := []) rfl trivial ?_
            obtain ⟨s1695, hq1699, h⟩ := g_bind h
            refine c_V (rest := []) C0 hFr (t_X12_copy hG f.2.1 N hq1699) lk_X12_208 (k_at kX12_product__ok 36 rfl) rfl rfl rfl rfl ⟨_, _, rfl⟩ (by decide) (by decide) (Nat.le_of_ble_eq_true rfl) ?_
            refine m_blk C0 (pX12_ok rfl) kX12_product__ok 37 2 (73, [some (.inr (.inr (71, 0))), some (.inl a1), some (.inl a2), some (.inl a3)], [.inl a1, .inr (.inr (71, 0))], s1695) (Ps := []) rfl trivial ?_
            obtain ⟨⟨v1697, s1696⟩, hq1698, h⟩ := g_bind h
            refine c_V (rest := []) C0 hFr (t_X12_degree0 hG f.2.1 N hq1698) lk_X12_197 (k_at kX12_product__ok 39 rfl) rfl rfl rfl rfl ⟨_, _, rfl⟩ (by decide) (by decide) (Nat.le_of_ble_eq_true rfl) ?_
            cases h
            exact m_iret C0 hFin (k_at kX12_product__ok 40 rfl) (Or.inl rfl)
          · replace h := g_neg hb1712 h
            refine m_blk C0 (pX12_ok rfl) kX12_product__ok 22 2 (47, [some (.inr (.inr (71, 0))), some (.inl a1), some (.inl a2), some (.inl a3)], [.inl a3, .inr (.inr (71, 0))], s1692) (Ps := []) rfl trivial ?_
            obtain ⟨⟨v1702, s1701⟩, hq1711, h⟩ := g_bind h
            refine c_V (rest := []) C0 hFr (t_X12_degree0 hG f.2.1 N hq1711) lk_X12_197 (k_at kX12_product__ok 24 rfl) rfl rfl rfl rfl ⟨_, _, rfl⟩ (by decide) (by decide) (Nat.le_of_ble_eq_true rfl) ?_
            refine b_lt C0 kX12_product__ok 25 (off := 6) (tgt := 56) rfl (by decide) (fun hb1710 => ?_) (fun hb1710 => ?_)
            · replace h := g_pos hb1710 h
              refine m_blk C0 (pX12_ok rfl) kX12_product__ok 28 4 (61, [some (.inr (.inr (71, 0))), some (.inl a1), some (.inl a2), some (.inl a3)], [.inl a3, .inl a2, .inl 8, .inr (.inr (71, 0))], s1701) (Ps := []) rfl trivial ?_
              obtain ⟨s1703, hq1709, h⟩ := g_bind h
              refine c_V (rest := []) C0 hFr (t_X12_multiply hG f.2.1 N hq1709) lk_X12_204 (k_at kX12_product__ok 32 rfl) rfl rfl rfl rfl ⟨_, _, rfl⟩ (by decide) (by decide) (Nat.le_of_ble_eq_true rfl) ?_
              refine m_blk C0 (pX12_ok rfl) kX12_product__ok 33 3 (68, [some (.inr (.inr (71, 0))), some (.inl a1), some (.inl a2), some (.inl a3)], [.inl a1, .inl 8, .inr (.inr (71, 0))], s1703) (Ps := []) rfl trivial ?_
              obtain ⟨s1704, hq1708, h⟩ := g_bind h
              refine c_V (rest := []) C0 hFr (t_X12_copy hG f.2.1 N hq1708) lk_X12_208 (k_at kX12_product__ok 36 rfl) rfl rfl rfl rfl ⟨_, _, rfl⟩ (by decide) (by decide) (Nat.le_of_ble_eq_true rfl) ?_
              refine m_blk C0 (pX12_ok rfl) kX12_product__ok 37 2 (73, [some (.inr (.inr (71, 0))), some (.inl a1), some (.inl a2), some (.inl a3)], [.inl a1, .inr (.inr (71, 0))], s1704) (Ps := []) rfl trivial ?_
              obtain ⟨⟨v1706, s1705⟩, hq1707, h⟩ := g_bind h
              refine c_V (rest := []) C0 hFr (t_X12_degree0 hG f.2.1 N hq1707) lk_X12_197 (k_at kX12_product__ok 39 rfl) rfl rfl rfl rfl ⟨_, _, rfl⟩ (by decide) (by decide) (Nat.le_of_ble_eq_true rfl) ?_
              cases h
              exact m_iret C0 hFin (k_at kX12_product__ok 40 rfl) (Or.inl rfl)
            · replace h := g_neg hb1710 h
              refine m_blk C0 (pX12_ok rfl) kX12_product__ok 26 1 (55, [some (.inr (.inr (71, 0))), some (.inl a1), some (.inl a2), some (.inl a3)], [.inl (-2)], s1701) (Ps := []) rfl trivial ?_
              cases h
              exact m_iret C0 hFin (k_at kX12_product__ok 27 rfl) (Or.inl rfl)
set_option maxRecDepth 100000 in
set_option maxHeartbeats 4000000 in
theorem p_X12_adds_26 {e : mEv} (hG : mGeo (mw0 e) lw_kept) (N : Nat) {f : mFx} (C0 : mCx f (mw0 e) sc0 cX12_adds 10 RX12 lw_kept) (hFr : mFr f 2) : ∀ (n : Nat) (x1 : Int) (x2 : Int) (x3 : Int) (x4 : Int) (x5 : Int) (x6 : Int) (x7 : Int) (σ : mS) (σ' : mS), L_X12_adds_26 N n x1 x2 x3 x4 x5 x6 x7 σ = some σ' → mWW f (mw0 e) sc0 10 (132, [some (.inr (.inr (71, 0))), some (.inl x1), some (.inl x2), some (.inl x3), some (.inl x4), some (.inl x5), some (.inl x6), none, none, none], [], σ') → mWW f (mw0 e) sc0 10 (26, [some (.inr (.inr (71, 0))), some (.inl x1), some (.inl x2), some (.inl x3), some (.inl x4), some (.inl x5), some (.inl x6), some (.inl x7), none, none], [], σ) := by
  intro n
  induction n with
  | zero =>
    intro x1 x2 x3 x4 x5 x6 x7 σ σ' h hK
    cases h
  | succ n IH =>
    intro x1 x2 x3 x4 x5 x6 x7 σ σ' h hK
    rw [L_X12_adds_26_s] at h
    refine m_blk C0 (pX12_ok rfl) kX12_adds_ok 14 6 (36, [some (.inr (.inr (71, 0))), some (.inl x1), some (.inl x2), some (.inl x3), some (.inl x4), some (.inl x5), some (.inl x6), some (.inl x7), none, none], [.inl 9, .inl (mw ((mw (x5 + x6)) + x7))], σ) (Ps := []) rfl trivial ?_
    refine b_ige C0 kX12_adds_ok 20 (off := 96) (tgt := 132) rfl (by decide) (fun hb1742 => ?_) (fun hb1742 => ?_)
    · replace h := g_pos hb1742 h
      cases h
      refine m_mask [true, true, true, true, true, true, true, false, false, false] (ls' := [some (.inr (.inr (71, 0))), some (.inl x1), some (.inl x2), some (.inl x3), some (.inl x4), some (.inl x5), some (.inl x6), none, none, none]) rfl ?_
      exact hK
    · replace h := g_neg hb1742 h
      refine m_blk C0 (pX12_ok rfl) kX12_adds_ok 21 5 (47, [some (.inr (.inr (71, 0))), some (.inl x1), some (.inl x2), some (.inl x3), some (.inl x4), some (.inl x5), some (.inl x6), some (.inl x7), none, none], [.inl x7, .inl x6, .inl x5, .inl x2, .inr (.inr (71, 0))], σ) (Ps := []) rfl trivial ?_
      obtain ⟨⟨v1731, s1730⟩, hq1741, h⟩ := g_bind h
      refine c_V (rest := []) C0 hFr (t_X12_of_ hG f.2.1 N hq1741) lk_X12_194 (k_at kX12_adds_ok 26 rfl) rfl rfl rfl rfl ⟨_, _, rfl⟩ (by decide) (by decide) (Nat.le_of_ble_eq_true rfl) ?_
      refine m_blk C0 (pX12_ok rfl) kX12_adds_ok 27 2 (54, [some (.inr (.inr (71, 0))), some (.inl x1), some (.inl x2), some (.inl x3), some (.inl x4), some (.inl x5), some (.inl x6), some (.inl x7), some (.inl v1731), none], [.inl v1731], s1730) (Ps := []) rfl trivial ?_
      refine b_ne C0 kX12_adds_ok 29 (off := 6) (tgt := 60) rfl (by decide) (fun hb1740 => ?_) (fun hb1740 => ?_)
      · replace h := g_neg hb1740 h
        refine m_blk C0 (pX12_ok rfl) kX12_adds_ok 31 5 (68, [some (.inr (.inr (71, 0))), some (.inl x1), some (.inl x2), some (.inl x3), some (.inl x4), some (.inl x5), some (.inl x6), some (.inl x7), some (.inl v1731), none], [.inl x7, .inl x6, .inl x5, .inl x3, .inr (.inr (71, 0))], s1730) (Ps := []) rfl trivial ?_
        obtain ⟨s1732, hq1739, h⟩ := g_bind h
        refine c_V (rest := []) C0 hFr (t_X12_turns hG f.2.1 N hq1739) lk_X12_224 (k_at kX12_adds_ok 36 rfl) rfl rfl rfl rfl ⟨_, _, rfl⟩ (by decide) (by decide) (Nat.le_of_ble_eq_true rfl) ?_
        refine m_blk C0 (pX12_ok rfl) kX12_adds_ok 37 9 (88, [some (.inr (.inr (71, 0))), some (.inl x1), some (.inl x2), some (.inl x3), some (.inl x4), some (.inl x5), some (.inl x6), some (.inl x7), some (.inl v1731), none], [.inl (s1732 71 0 16), .inl (s1732 71 0 15), .inl (s1732 71 0 14), .inl (mw ((729 : Int) * x1))], s1732) (Ps := []) rfl trivial ?_
        obtain ⟨⟨v1734, s1733⟩, hq1738, h⟩ := g_bind h
        refine c_S (rest := [.inl (mw ((729 : Int) * x1))]) C0 hFr (t_X12_at hG f.2.1 N hq1738) lk_X12_181 (k_at kX12_adds_ok 46 rfl) rfl rfl rfl (by decide) (by decide) (Nat.le_of_ble_eq_true rfl) ?_
        obtain ⟨hc, h⟩ := g_if h
        refine m_blk C0 (pX12_ok rfl) kX12_adds_ok 47 16 (117, [some (.inr (.inr (71, 0))), some (.inl x1), some (.inl x2), some (.inl x3), some (.inl x4), some (.inl x5), some (.inl x6), some (.inl x7), some (.inl v1731), some (.inl (mw ((mw ((729 : Int) * x1)) + v1734)))], [.inr (.inl (mx ((s1733 71 0 17) * x4))), .inr (.inl (s1733 81 0 ((mw ((mw ((729 : Int) * x1)) + v1734)).toNat))), .inl (mw ((mw ((729 : Int) * x1)) + v1734)), .inr (.inr (81, 0))], s1733) (Ps := [0 ≤ (mw ((mw ((729 : Int) * x1)) + v1734)) ∧ (mw ((mw ((729 : Int) * x1)) + v1734)) < 7290]) rfl (And.intro hc trivial) ?_
        refine m_blk C0 (pX12_ok rfl) kX12_adds_ok 63 4 (122, [some (.inr (.inr (71, 0))), some (.inl x1), some (.inl x2), some (.inl x3), some (.inl x4), some (.inl x5), some (.inl x6), some (.inl x7), some (.inl v1731), some (.inl (mw ((mw ((729 : Int) * x1)) + v1734)))], [.inr (.inl (mx ((s1733 81 0 ((mw ((mw ((729 : Int) * x1)) + v1734)).toNat)) + (mx ((mx ((s1733 71 0 17) * x4)) * v1731))))), .inl (mw ((mw ((729 : Int) * x1)) + v1734)), .inr (.inr (81, 0))], s1733) (Ps := []) rfl trivial ?_
        obtain ⟨⟨v1736, s1735⟩, hq1737, h⟩ := g_bind h
        refine c_S (rest := [.inl (mw ((mw ((729 : Int) * x1)) + v1734)), .inr (.inr (81, 0))]) C0 hFr (t_X12_left hG f.2.1 N hq1737) lk_X12_190 (k_at kX12_adds_ok 67 rfl) rfl rfl rfl (by decide) (by decide) (Nat.le_of_ble_eq_true rfl) ?_
        obtain ⟨hc, h⟩ := g_if h
        refine m_blk C0 (pX12_ok rfl) kX12_adds_ok 68 1 (126, [some (.inr (.inr (71, 0))), some (.inl x1), some (.inl x2), some (.inl x3), some (.inl x4), some (.inl x5), some (.inl x6), some (.inl x7), some (.inl v1731), some (.inl (mw ((mw ((729 : Int) * x1)) + v1734)))], [], (mup s1735 81 0 ((mw ((mw ((729 : Int) * x1)) + v1734)).toNat) v1736)) (Ps := [0 ≤ (mw ((mw ((729 : Int) * x1)) + v1734)) ∧ (mw ((mw ((729 : Int) * x1)) + v1734)) < 7290]) rfl (And.intro hc trivial) ?_
        refine m_blk C0 (pX12_ok rfl) kX12_adds_ok 69 2 (26, [some (.inr (.inr (71, 0))), some (.inl x1), some (.inl x2), some (.inl x3), some (.inl x4), some (.inl x5), some (.inl x6), some (.inl (mw (x7 + 1))), some (.inl v1731), some (.inl (mw ((mw ((729 : Int) * x1)) + v1734)))], [], (mup s1735 81 0 ((mw ((mw ((729 : Int) * x1)) + v1734)).toNat) v1736)) (Ps := []) rfl trivial ?_
        refine m_mask [true, true, true, true, true, true, true, true, false, false] (ls' := [some (.inr (.inr (71, 0))), some (.inl x1), some (.inl x2), some (.inl x3), some (.inl x4), some (.inl x5), some (.inl x6), some (.inl (mw (x7 + 1))), none, none]) rfl ?_
        exact IH _ _ _ _ _ _ _ _ _ h hK
      · replace h := g_pos hb1740 h
        refine m_blk C0 (pX12_ok rfl) kX12_adds_ok 30 1 (126, [some (.inr (.inr (71, 0))), some (.inl x1), some (.inl x2), some (.inl x3), some (.inl x4), some (.inl x5), some (.inl x6), some (.inl x7), some (.inl v1731), none], [], s1730) (Ps := []) rfl trivial ?_
        refine m_blk C0 (pX12_ok rfl) kX12_adds_ok 69 2 (26, [some (.inr (.inr (71, 0))), some (.inl x1), some (.inl x2), some (.inl x3), some (.inl x4), some (.inl x5), some (.inl x6), some (.inl (mw (x7 + 1))), some (.inl v1731), none], [], s1730) (Ps := []) rfl trivial ?_
        refine m_mask [true, true, true, true, true, true, true, true, false, false] (ls' := [some (.inr (.inr (71, 0))), some (.inl x1), some (.inl x2), some (.inl x3), some (.inl x4), some (.inl x5), some (.inl x6), some (.inl (mw (x7 + 1))), none, none]) rfl ?_
        exact IH _ _ _ _ _ _ _ _ _ h hK
set_option maxRecDepth 100000 in
set_option maxHeartbeats 4000000 in
theorem p_X12_adds_13 {e : mEv} (hG : mGeo (mw0 e) lw_kept) (N : Nat) {f : mFx} (C0 : mCx f (mw0 e) sc0 cX12_adds 10 RX12 lw_kept) (hFr : mFr f 2) : ∀ (n : Nat) (x1 : Int) (x2 : Int) (x3 : Int) (x4 : Int) (x5 : Int) (x6 : Int) (σ : mS) (σ' : mS), L_X12_adds_13 N n x1 x2 x3 x4 x5 x6 σ = some σ' → mWW f (mw0 e) sc0 10 (138, [some (.inr (.inr (71, 0))), some (.inl x1), some (.inl x2), some (.inl x3), some (.inl x4), some (.inl x5), none, none, none, none], [], σ') → mWW f (mw0 e) sc0 10 (13, [some (.inr (.inr (71, 0))), some (.inl x1), some (.inl x2), some (.inl x3), some (.inl x4), some (.inl x5), some (.inl x6), none, none, none], [], σ) := by
  intro n
  induction n with
  | zero =>
    intro x1 x2 x3 x4 x5 x6 σ σ' h hK
    cases h
  | succ n IH =>
    intro x1 x2 x3 x4 x5 x6 σ σ' h hK
    rw [L_X12_adds_13_s] at h
    refine m_blk C0 (pX12_ok rfl) kX12_adds_ok 7 4 (20, [some (.inr (.inr (71, 0))), some (.inl x1), some (.inl x2), some (.inl x3), some (.inl x4), some (.inl x5), some (.inl x6), none, none, none], [.inl 9, .inl (mw (x5 + x6))], σ) (Ps := []) rfl trivial ?_
    refine b_ige C0 kX12_adds_ok 11 (off := 118) (tgt := 138) rfl (by decide) (fun hb1745 => ?_) (fun hb1745 => ?_)
    · replace h := g_pos hb1745 h
      cases h
      refine m_mask [true, true, true, true, true, true, false, false, false, false] (ls' := [some (.inr (.inr (71, 0))), some (.inl x1), some (.inl x2), some (.inl x3), some (.inl x4), some (.inl x5), none, none, none, none]) rfl ?_
      exact hK
    · replace h := g_neg hb1745 h
      refine m_blk C0 (pX12_ok rfl) kX12_adds_ok 12 2 (26, [some (.inr (.inr (71, 0))), some (.inl x1), some (.inl x2), some (.inl x3), some (.inl x4), some (.inl x5), some (.inl x6), some (.inl 0), none, none], [], σ) (Ps := []) rfl trivial ?_
      obtain ⟨s1743, hq1744, h⟩ := g_bind h
      refine m_mask [true, true, true, true, true, true, true, true, false, false] (ls' := [some (.inr (.inr (71, 0))), some (.inl x1), some (.inl x2), some (.inl x3), some (.inl x4), some (.inl x5), some (.inl x6), some (.inl 0), none, none]) rfl ?_
      refine p_X12_adds_26 hG N C0 hFr N _ _ _ _ _ _ _ _ _ hq1744 ?_
      refine m_blk C0 (pX12_ok rfl) kX12_adds_ok 71 2 (13, [some (.inr (.inr (71, 0))), some (.inl x1), some (.inl x2), some (.inl x3), some (.inl x4), some (.inl x5), some (.inl (mw (x6 + 1))), none, none, none], [], s1743) (Ps := []) rfl trivial ?_
      refine m_mask [true, true, true, true, true, true, true, false, false, false] (ls' := [some (.inr (.inr (71, 0))), some (.inl x1), some (.inl x2), some (.inl x3), some (.inl x4), some (.inl x5), some (.inl (mw (x6 + 1))), none, none, none]) rfl ?_
      exact IH _ _ _ _ _ _ _ _ h hK
set_option maxRecDepth 100000 in
set_option maxHeartbeats 4000000 in
theorem p_X12_adds_3 {e : mEv} (hG : mGeo (mw0 e) lw_kept) (N : Nat) {f : mFx} (C0 : mCx f (mw0 e) sc0 cX12_adds 10 RX12 lw_kept) (hFr : mFr f 2) : ∀ (n : Nat) (x1 : Int) (x2 : Int) (x3 : Int) (x4 : Int) (x5 : Int) (σ : mS) (σ' : mS), L_X12_adds_3 N n x1 x2 x3 x4 x5 σ = some σ' → mWW f (mw0 e) sc0 10 (144, [none, none, none, none, none, none, none, none, none, none], [], σ') → mWW f (mw0 e) sc0 10 (3, [some (.inr (.inr (71, 0))), some (.inl x1), some (.inl x2), some (.inl x3), some (.inl x4), some (.inl x5), none, none, none, none], [], σ) := by
  intro n
  induction n with
  | zero =>
    intro x1 x2 x3 x4 x5 σ σ' h hK
    cases h
  | succ n IH =>
    intro x1 x2 x3 x4 x5 σ σ' h hK
    rw [L_X12_adds_3_s] at h
    refine m_blk C0 (pX12_ok rfl) kX12_adds_ok 2 2 (7, [some (.inr (.inr (71, 0))), some (.inl x1), some (.inl x2), some (.inl x3), some (.inl x4), some (.inl x5), none, none, none, none], [.inl 9, .inl x5], σ) (Ps := []) rfl trivial ?_
    refine b_ige C0 kX12_adds_ok 4 (off := 137) (tgt := 144) rfl (by decide) (fun hb1748 => ?_) (fun hb1748 => ?_)
    · replace h := g_pos hb1748 h
      cases h
      refine m_mask [false, false, false, false, false, false, false, false, false, false] (ls' := [none, none, none, none, none, none, none, none, none, none]) rfl ?_
      exact hK
    · replace h := g_neg hb1748 h
      refine m_blk C0 (pX12_ok rfl) kX12_adds_ok 5 2 (13, [some (.inr (.inr (71, 0))), some (.inl x1), some (.inl x2), some (.inl x3), some (.inl x4), some (.inl x5), some (.inl 0), none, none, none], [], σ) (Ps := []) rfl trivial ?_
      obtain ⟨s1746, hq1747, h⟩ := g_bind h
      refine m_mask [true, true, true, true, true, true, true, false, false, false] (ls' := [some (.inr (.inr (71, 0))), some (.inl x1), some (.inl x2), some (.inl x3), some (.inl x4), some (.inl x5), some (.inl 0), none, none, none]) rfl ?_
      refine p_X12_adds_13 hG N C0 hFr N _ _ _ _ _ _ _ _ hq1747 ?_
      refine m_blk C0 (pX12_ok rfl) kX12_adds_ok 73 2 (3, [some (.inr (.inr (71, 0))), some (.inl x1), some (.inl x2), some (.inl x3), some (.inl x4), some (.inl (mw (x5 + 1))), none, none, none, none], [], s1746) (Ps := []) rfl trivial ?_
      refine m_mask [true, true, true, true, true, true, false, false, false, false] (ls' := [some (.inr (.inr (71, 0))), some (.inl x1), some (.inl x2), some (.inl x3), some (.inl x4), some (.inl (mw (x5 + 1))), none, none, none, none]) rfl ?_
      exact IH _ _ _ _ _ _ _ h hK
set_option maxRecDepth 100000 in
set_option maxHeartbeats 4000000 in
theorem t_X12_adds {e : mEv} (hG : mGeo (mw0 e) lw_kept) (l : Launch) (N : Nat) {a1 : Int} {a2 : Int} {a3 : Int} {a4 : Int} {σ σ' : mS} (h : f_X12_adds N a1 a2 a3 a4 σ = some σ') : mMet l (mw0 e) lw_kept 2 yX12_adds cX12_adds 10 none [.inr (.inr (71, 0)), .inl a1, .inl a2, .inl a3, .inl a4] σ none σ' := by
  refine mMet_intro (plainFor_of_name (by decide)) hG (Nat.le_of_ble_eq_true rfl) (fun f hl hR C0 hFin => ?_)
  subst hl
  have hFr := mFr_of hR hFin
  unfold f_X12_adds at h
  show mWW f (mw0 e) sc0 10 (0, [some (.inr (.inr (71, 0))), some (.inl a1), some (.inl a2), some (.inl a3), some (.inl a4), none, none, none, none, none], [], σ)
  refine m_blk C0 (pX12_ok rfl) kX12_adds_ok 0 2 (3, [some (.inr (.inr (71, 0))), some (.inl a1), some (.inl a2), some (.inl a3), some (.inl a4), some (.inl 0), none, none, none, none], [], σ) (Ps := []) rfl trivial ?_
  obtain ⟨s1749, hq1750, h⟩ := g_bind h
  refine m_mask [true, true, true, true, true, true, false, false, false, false] (ls' := [some (.inr (.inr (71, 0))), some (.inl a1), some (.inl a2), some (.inl a3), some (.inl a4), some (.inl 0), none, none, none, none]) rfl ?_
  refine p_X12_adds_3 hG N C0 hFr N _ _ _ _ _ _ _ hq1750 ?_
  cases h
  exact m_vret C0 hFin (k_at kX12_adds_ok 75 rfl)
set_option maxRecDepth 100000 in
set_option maxHeartbeats 4000000 in
theorem t_X12_turned {e : mEv} (hG : mGeo (mw0 e) lw_kept) (l : Launch) (N : Nat) {a1 : Int} {a2 : Int} {a3 : Int} {σ σ' : mS} {v : Int} (h : f_X12_turned N a1 a2 a3 σ = some (v, σ')) : mMet l (mw0 e) lw_kept 3 yX12_turned cX12_turned 4 (some .int) [.inr (.inr (71, 0)), .inl a1, .inl a2, .inl a3] σ (some (.inl v)) σ' := by
  refine mMet_intro (plainFor_of_name (by decide)) hG (Nat.le_of_ble_eq_true rfl) (fun f hl hR C0 hFin => ?_)
  subst hl
  have hFr := mFr_of hR hFin
  unfold f_X12_turned at h
  show mWW f (mw0 e) sc0 4 (0, [some (.inr (.inr (71, 0))), some (.inl a1), some (.inl a2), some (.inl a3)], [], σ)
  refine m_blk C0 (pX12_ok rfl) kX12_turned_ok 0 1 (1, [some (.inr (.inr (71, 0))), some (.inl a1), some (.inl a2), some (.inl a3)], [.inl a1], σ) (Ps := []) rfl trivial ?_
  obtain ⟨⟨v1724, s1723⟩, hq1764, h⟩ := g_bind h
  refine c_S (rest := []) C0 hFr (t_X12_isPoly hG f.2.1 N hq1764) lk_X12_184 (k_at kX12_turned_ok 1 rfl) rfl rfl rfl (by decide) (by decide) (Nat.le_of_ble_eq_true rfl) ?_
  refine b_eq C0 kX12_turned_ok 2 (off := 18) (tgt := 22) rfl (by decide) (fun hb1763 => ?_) (fun hb1763 => ?_)
  · replace h := g_pos hb1763 h
    refine m_blk C0 (pX12_ok rfl) kX12_turned_ok 10 1 (24, [some (.inr (.inr (71, 0))), some (.inl a1), some (.inl a2), some (.inl a3)], [.inl (-2)], s1723) (Ps := []) rfl trivial ?_
    cases h
    exact m_iret C0 hFin (k_at kX12_turned_ok 11 rfl) (Or.inl rfl)
  · replace h := g_neg hb1763 h
    refine m_blk C0 (pX12_ok rfl) kX12_turned_ok 3 1 (8, [some (.inr (.inr (71, 0))), some (.inl a1), some (.inl a2), some (.inl a3)], [.inl a2], s1723) (Ps := []) rfl trivial ?_
    obtain ⟨⟨v1726, s1725⟩, hq1762, h⟩ := g_bind h
    refine c_S (rest := []) C0 hFr (t_X12_isPoly hG f.2.1 N hq1762) lk_X12_184 (k_at kX12_turned_ok 4 rfl) rfl rfl rfl (by decide) (by decide) (Nat.le_of_ble_eq_true rfl) ?_
    refine b_eq C0 kX12_turned_ok 5 (off := 11) (tgt := 22) rfl (by decide) (fun hb1761 => ?_) (fun hb1761 => ?_)
    · replace h := g_pos hb1761 h
      refine m_blk C0 (pX12_ok rfl) kX12_turned_ok 10 1 (24, [some (.inr (.inr (71, 0))), some (.inl a1), some (.inl a2), some (.inl a3)], [.inl (-2)], s1725) (Ps := []) rfl trivial ?_
      cases h
      exact m_iret C0 hFin (k_at kX12_turned_ok 11 rfl) (Or.inl rfl)
    · replace h := g_neg hb1761 h
      refine m_blk C0 (pX12_ok rfl) kX12_turned_ok 6 2 (16, [some (.inr (.inr (71, 0))), some (.inl a1), some (.inl a2), some (.inl a3)], [.inl a3, .inr (.inr (71, 0))], s1725) (Ps := []) rfl trivial ?_
      obtain ⟨⟨v1728, s1727⟩, hq1760, h⟩ := g_bind h
      refine c_V (rest := []) C0 hFr (t_X12_isElement hG f.2.1 N hq1760) lk_X12_125 (k_at kX12_turned_ok 8 rfl) rfl rfl rfl rfl ⟨_, _, rfl⟩ (by decide) (by decide) (Nat.le_of_ble_eq_true rfl) ?_
      refine b_ne C0 kX12_turned_ok 9 (off := 6) (tgt := 25) rfl (by decide) (fun hb1759 => ?_) (fun hb1759 => ?_)
      · replace h := g_neg hb1759 h
        refine m_blk C0 (pX12_ok rfl) kX12_turned_ok 12 2 (28, [some (.inr (.inr (71, 0))), some (.inl a1), some (.inl a2), some (.inl a3)], [.inl 8, .inr (.inr (71, 0))], s1727) (Ps := []) rfl trivial ?_
        obtain ⟨s1729, hq1758, h⟩ := g_bind h
        refine c_V (rest := []) C0 hFr (t_X12_clear hG f.2.1 N hq1758) lk_X12_200 (k_at kX12_turned_ok 14 rfl) rfl rfl rfl rfl ⟨_, _, rfl⟩ (by decide) (by decide) (Nat.le_of_ble_eq_true rfl) ?_
        refine m_blk C0 (pX12_ok rfl) kX12_turned_ok 15 5 (37, [some (.inr (.inr (71, 0))), some (.inl a1), some (.inl a2), some (.inl a3)], [.inl 1, .inl a3, .inl a2, .inl 8, .inr (.inr (71, 0))], s1729) (Ps := []) rfl trivial ?_
        obtain ⟨s1751, hq1757, h⟩ := g_bind h
        refine c_V (rest := []) C0 hFr (t_X12_adds hG f.2.1 N hq1757) lk_X12_228 (k_at kX12_turned_ok 20 rfl) rfl rfl rfl rfl ⟨_, _, rfl⟩ (by decide) (by decide) (Nat.le_of_ble_eq_true rfl) ?_
        refine m_blk C0 (pX12_ok rfl) kX12_turned_ok 21 3 (44, [some (.inr (.inr (71, 0))), some (.inl a1), some (.inl a2), some (.inl a3)], [.inl a1, .inl 8, .inr (.inr (71, 0))], s1751) (Ps := []) rfl trivial ?_
        obtain ⟨s1752, hq1756, h⟩ := g_bind h
        refine c_V (rest := []) C0 hFr (t_X12_copy hG f.2.1 N hq1756) lk_X12_208 (k_at kX12_turned_ok 24 rfl) rfl rfl rfl rfl ⟨_, _, rfl⟩ (by decide) (by decide) (Nat.le_of_ble_eq_true rfl) ?_
        refine m_blk C0 (pX12_ok rfl) kX12_turned_ok 25 2 (49, [some (.inr (.inr (71, 0))), some (.inl a1), some (.inl a2), some (.inl a3)], [.inl a1, .inr (.inr (71, 0))], s1752) (Ps := []) rfl trivial ?_
        obtain ⟨⟨v1754, s1753⟩, hq1755, h⟩ := g_bind h
        refine c_V (rest := []) C0 hFr (t_X12_degree0 hG f.2.1 N hq1755) lk_X12_197 (k_at kX12_turned_ok 27 rfl) rfl rfl rfl rfl ⟨_, _, rfl⟩ (by decide) (by decide) (Nat.le_of_ble_eq_true rfl) ?_
        cases h
        exact m_iret C0 hFin (k_at kX12_turned_ok 28 rfl) (Or.inl rfl)
      · replace h := g_pos hb1759 h
        refine m_blk C0 (pX12_ok rfl) kX12_turned_ok 10 1 (24, [some (.inr (.inr (71, 0))), some (.inl a1), some (.inl a2), some (.inl a3)], [.inl (-2)], s1727) (Ps := []) rfl trivial ?_
        cases h
        exact m_iret C0 hFin (k_at kX12_turned_ok 11 rfl) (Or.inl rfl)
set_option maxRecDepth 100000 in
set_option maxHeartbeats 4000000 in
theorem p_X12_mean0_8 {e : mEv} (hG : mGeo (mw0 e) lw_kept) (N : Nat) {f : mFx} (C0 : mCx f (mw0 e) sc0 cX12_mean0 6 RX12 lw_kept) (hFr : mFr f 3) : ∀ (n : Nat) (x1 : Int) (x2 : Int) (x3 : Int) (x4 : Int) (σ : mS) (σ' : mS), L_X12_mean0_8 N n x1 x2 x3 x4 σ = some σ' → mWW f (mw0 e) sc0 6 (43, [some (.inr (.inr (71, 0))), some (.inl x1), none, none, none, none], [], σ') → mWW f (mw0 e) sc0 6 (8, [some (.inr (.inr (71, 0))), some (.inl x1), some (.inl x2), some (.inl x3), some (.inl x4), none], [], σ) := by
  intro n
  induction n with
  | zero =>
    intro x1 x2 x3 x4 σ σ' h hK
    cases h
  | succ n IH =>
    intro x1 x2 x3 x4 σ σ' h hK
    rw [L_X12_mean0_8_s] at h
    refine m_blk C0 (pX12_ok rfl) kX12_mean0_ok 5 3 (14, [some (.inr (.inr (71, 0))), some (.inl x1), some (.inl x2), some (.inl x3), some (.inl x4), none], [.inl (σ 71 0 6), .inl x4], σ) (Ps := []) rfl trivial ?_
    refine b_ige C0 kX12_mean0_ok 8 (off := 29) (tgt := 43) rfl (by decide) (fun hb1774 => ?_) (fun hb1774 => ?_)
    · replace h := g_pos hb1774 h
      cases h
      refine m_mask [true, true, false, false, false, false] (ls' := [some (.inr (.inr (71, 0))), some (.inl x1), none, none, none, none]) rfl ?_
      exact hK
    · replace h := g_neg hb1774 h
      obtain ⟨hc, h⟩ := g_if h
      refine m_blk C0 (pX12_ok rfl) kX12_mean0_ok 9 12 (34, [some (.inr (.inr (71, 0))), some (.inl x1), some (.inl x2), some (.inl x3), some (.inl x4), none], [.inl (σ 79 0 ((mw ((mw ((48 : Int) * x3)) + x4)).toNat)), .inl x4, .inl x2, .inl x1, .inr (.inr (71, 0))], σ) (Ps := [0 ≤ (mw ((mw ((48 : Int) * x3)) + x4)) ∧ (mw ((mw ((48 : Int) * x3)) + x4)) < 768]) rfl (And.intro hc trivial) ?_
      obtain ⟨s1772, hq1773, h⟩ := g_bind h
      refine c_V (rest := []) C0 hFr (t_X12_adds hG f.2.1 N hq1773) lk_X12_228 (k_at kX12_mean0_ok 21 rfl) rfl rfl rfl rfl ⟨_, _, rfl⟩ (by decide) (by decide) (Nat.le_of_ble_eq_true rfl) ?_
      refine m_blk C0 (pX12_ok rfl) kX12_mean0_ok 22 2 (8, [some (.inr (.inr (71, 0))), some (.inl x1), some (.inl x2), some (.inl x3), some (.inl (mw (x4 + 1))), none], [], s1772) (Ps := []) rfl trivial ?_
      refine m_mask [true, true, true, true, true, false] (ls' := [some (.inr (.inr (71, 0))), some (.inl x1), some (.inl x2), some (.inl x3), some (.inl (mw (x4 + 1))), none]) rfl ?_
      exact IH _ _ _ _ _ _ h hK
set_option maxRecDepth 100000 in
set_option maxHeartbeats 4000000 in
theorem p_X12_mean0_55 {e : mEv} (hG : mGeo (mw0 e) lw_kept) (N : Nat) {f : mFx} (C0 : mCx f (mw0 e) sc0 cX12_mean0 6 RX12 lw_kept) (hFr : mFr f 3) : ∀ (n : Nat) (x1 : Int) (x4 : Int) (x5 : Int) (σ : mS) (σ' : mS), L_X12_mean0_55 N n x1 x4 x5 σ = some σ' → mWW f (mw0 e) sc0 6 (103, [none, none, none, none, none, none], [], σ') → mWW f (mw0 e) sc0 6 (55, [some (.inr (.inr (71, 0))), some (.inl x1), none, none, some (.inl x4), some (.inl x5)], [], σ) := by
  intro n
  induction n with
  | zero =>
    intro x1 x4 x5 σ σ' h hK
    cases h
  | succ n IH =>
    intro x1 x4 x5 σ σ' h hK
    rw [L_X12_mean0_55_s] at h
    refine m_blk C0 (pX12_ok rfl) kX12_mean0_ok 30 2 (60, [some (.inr (.inr (71, 0))), some (.inl x1), none, none, some (.inl x4), some (.inl x5)], [.inl 729, .inl x5], σ) (Ps := []) rfl trivial ?_
    refine b_ige C0 kX12_mean0_ok 32 (off := 43) (tgt := 103) rfl (by decide) (fun hb1781 => ?_) (fun hb1781 => ?_)
    · replace h := g_pos hb1781 h
      cases h
      refine m_mask [false, false, false, false, false, false] (ls' := [none, none, none, none, none, none]) rfl ?_
      exact hK
    · replace h := g_neg hb1781 h
      obtain ⟨hc, h⟩ := g_if h
      refine m_blk C0 (pX12_ok rfl) kX12_mean0_ok 33 16 (89, [some (.inr (.inr (71, 0))), some (.inl x1), none, none, some (.inl x4), some (.inl x5)], [.inr (.inl (σ 81 0 ((mw ((mw ((729 : Int) * x1)) + x5)).toNat))), .inl (mw ((mw ((729 : Int) * x1)) + x5)), .inr (.inr (81, 0))], σ) (Ps := [0 ≤ (mw ((mw ((729 : Int) * x1)) + x5)) ∧ (mw ((mw ((729 : Int) * x1)) + x5)) < 7290]) rfl (And.intro hc trivial) ?_
      refine m_blk C0 (pX12_ok rfl) kX12_mean0_ok 49 3 (93, [some (.inr (.inr (71, 0))), some (.inl x1), none, none, some (.inl x4), some (.inl x5)], [.inr (.inl (mx ((σ 81 0 ((mw ((mw ((729 : Int) * x1)) + x5)).toNat)) * x4))), .inl (mw ((mw ((729 : Int) * x1)) + x5)), .inr (.inr (81, 0))], σ) (Ps := []) rfl trivial ?_
      obtain ⟨⟨v1779, s1778⟩, hq1780, h⟩ := g_bind h
      refine c_S (rest := [.inl (mw ((mw ((729 : Int) * x1)) + x5)), .inr (.inr (81, 0))]) C0 hFr (t_X12_left hG f.2.1 N hq1780) lk_X12_190 (k_at kX12_mean0_ok 52 rfl) rfl rfl rfl (by decide) (by decide) (Nat.le_of_ble_eq_true rfl) ?_
      obtain ⟨hc, h⟩ := g_if h
      refine m_blk C0 (pX12_ok rfl) kX12_mean0_ok 53 1 (97, [some (.inr (.inr (71, 0))), some (.inl x1), none, none, some (.inl x4), some (.inl x5)], [], (mup s1778 81 0 ((mw ((mw ((729 : Int) * x1)) + x5)).toNat) v1779)) (Ps := [0 ≤ (mw ((mw ((729 : Int) * x1)) + x5)) ∧ (mw ((mw ((729 : Int) * x1)) + x5)) < 7290]) rfl (And.intro hc trivial) ?_
      refine m_blk C0 (pX12_ok rfl) kX12_mean0_ok 54 2 (55, [some (.inr (.inr (71, 0))), some (.inl x1), none, none, some (.inl x4), some (.inl (mw (x5 + 1)))], [], (mup s1778 81 0 ((mw ((mw ((729 : Int) * x1)) + x5)).toNat) v1779)) (Ps := []) rfl trivial ?_
      refine m_mask [true, true, false, false, true, true] (ls' := [some (.inr (.inr (71, 0))), some (.inl x1), none, none, some (.inl x4), some (.inl (mw (x5 + 1)))]) rfl ?_
      exact IH _ _ _ _ _ h hK
set_option maxRecDepth 100000 in
set_option maxHeartbeats 4000000 in
theorem t_X12_mean0 {e : mEv} (hG : mGeo (mw0 e) lw_kept) (l : Launch) (N : Nat) {a1 : Int} {a2 : Int} {a3 : Int} {σ σ' : mS} (h : f_X12_mean0 N a1 a2 a3 σ = some σ') : mMet l (mw0 e) lw_kept 3 yX12_mean0 cX12_mean0 6 none [.inr (.inr (71, 0)), .inl a1, .inl a2, .inl a3] σ none σ' := by
  refine mMet_intro (plainFor_of_name (by decide)) hG (Nat.le_of_ble_eq_true rfl) (fun f hl hR C0 hFin => ?_)
  subst hl
  have hFr := mFr_of hR hFin
  unfold f_X12_mean0 at h
  show mWW f (mw0 e) sc0 6 (0, [some (.inr (.inr (71, 0))), some (.inl a1), some (.inl a2), some (.inl a3), none, none], [], σ)
  refine m_blk C0 (pX12_ok rfl) kX12_mean0_ok 0 2 (2, [some (.inr (.inr (71, 0))), some (.inl a1), some (.inl a2), some (.inl a3), none, none], [.inl a1, .inr (.inr (71, 0))], σ) (Ps := []) rfl trivial ?_
  obtain ⟨s1771, hq1786, h⟩ := g_bind h
  refine c_V (rest := []) C0 hFr (t_X12_clear hG f.2.1 N hq1786) lk_X12_200 (k_at kX12_mean0_ok 2 rfl) rfl rfl rfl rfl ⟨_, _, rfl⟩ (by decide) (by decide) (Nat.le_of_ble_eq_true rfl) ?_
  refine m_blk C0 (pX12_ok rfl) kX12_mean0_ok 3 2 (8, [some (.inr (.inr (71, 0))), some (.inl a1), some (.inl a2), some (.inl a3), some (.inl 0), none], [], s1771) (Ps := []) rfl trivial ?_
  obtain ⟨s1775, hq1785, h⟩ := g_bind h
  refine m_mask [true, true, true, true, true, false] (ls' := [some (.inr (.inr (71, 0))), some (.inl a1), some (.inl a2), some (.inl a3), some (.inl 0), none]) rfl ?_
  refine p_X12_mean0_8 hG N C0 hFr N _ _ _ _ _ _ hq1785 ?_
  refine m_blk C0 (pX12_ok rfl) kX12_mean0_ok 24 2 (47, [some (.inr (.inr (71, 0))), some (.inl a1), none, none, none, none], [.inl (s1775 71 0 6)], s1775) (Ps := []) rfl trivial ?_
  obtain ⟨⟨v1777, s1776⟩, hq1784, h⟩ := g_bind h
  refine c_S (rest := []) C0 hFr (t_X12_by hG f.2.1 N hq1784) lk_X12_231 (k_at kX12_mean0_ok 26 rfl) rfl rfl rfl (by decide) (by decide) (Nat.le_of_ble_eq_true rfl) ?_
  refine m_blk C0 (pX12_ok rfl) kX12_mean0_ok 27 3 (55, [some (.inr (.inr (71, 0))), some (.inl a1), none, none, some (.inl v1777), some (.inl 0)], [], s1776) (Ps := []) rfl trivial ?_
  obtain ⟨s1782, hq1783, h⟩ := g_bind h
  refine m_mask [true, true, false, false, true, true] (ls' := [some (.inr (.inr (71, 0))), some (.inl a1), none, none, some (.inl v1777), some (.inl 0)]) rfl ?_
  refine p_X12_mean0_55 hG N C0 hFr N _ _ _ _ _ hq1783 ?_
  cases h
  exact m_vret C0 hFin (k_at kX12_mean0_ok 56 rfl)
