set_option maxRecDepth 100000 in
set_option maxHeartbeats 4000000 in
theorem p_X12_finds_7 {e : mEv} (hG : mGeo (mw0 e) lw_kept) (N : Nat) {f : mFx} (C0 : mCx f (mw0 e) sc0 cX12_finds 3 RX12 lw_kept) (hFr : mFr f 14) : ∀ (n : Nat) (x1 : Int) (σ : mS) (σ' : mS), L_X12_finds_7 N n x1 σ = some σ' → mWW f (mw0 e) sc0 3 (28, [some (.inr (.inr (71, 0))), none, none], [], σ') → mWW f (mw0 e) sc0 3 (7, [some (.inr (.inr (71, 0))), some (.inl x1), none], [], σ) := by
  intro n
  induction n with
  | zero =>
    intro x1 σ σ' h hK
    cases h
  | succ n IH =>
    intro x1 σ σ' h hK
    rw [L_X12_finds_7_s] at h
    refine m_blk C0 (pX12_ok rfl) kX12_finds_ok 5 3 (12, [some (.inr (.inr (71, 0))), some (.inl x1), none], [.inl (σ 71 0 6), .inl x1], σ) (Ps := []) rfl trivial ?_
    refine b_ige C0 kX12_finds_ok 8 (off := 16) (tgt := 28) rfl (by decide) (fun hb1077 => ?_) (fun hb1077 => ?_)
    · replace h := g_pos hb1077 h
      cases h
      refine m_mask [true, false, false] (ls' := [some (.inr (.inr (71, 0))), none, none]) rfl ?_
      exact hK
    · replace h := g_neg hb1077 h
      obtain ⟨hc, h⟩ := g_if h
      refine m_blk C0 (pX12_ok rfl) kX12_finds_ok 9 5 (22, [some (.inr (.inr (71, 0))), some (.inl x1), none], [], (mup σ 78 0 x1.toNat (-1))) (Ps := [0 ≤ x1 ∧ x1 < 48]) rfl (And.intro hc trivial) ?_
      refine m_blk C0 (pX12_ok rfl) kX12_finds_ok 14 2 (7, [some (.inr (.inr (71, 0))), some (.inl (mw (x1 + 1))), none], [], (mup σ 78 0 x1.toNat (-1))) (Ps := []) rfl trivial ?_
      refine m_mask [true, true, false] (ls' := [some (.inr (.inr (71, 0))), some (.inl (mw (x1 + 1))), none]) rfl ?_
      exact IH _ _ _ h hK
set_option maxRecDepth 100000 in
set_option maxHeartbeats 4000000 in
theorem p_X12_finds_53 {e : mEv} (hG : mGeo (mw0 e) lw_kept) (N : Nat) {f : mFx} (C0 : mCx f (mw0 e) sc0 cX12_finds 3 RX12 lw_kept) (hFr : mFr f 14) : ∀ (n : Nat) (x1 : Int) (x2 : Int) (σ : mS) (σ' : mS), L_X12_finds_53 N n x1 x2 σ = some σ' → mWW f (mw0 e) sc0 3 (91, [some (.inr (.inr (71, 0))), some (.inl x1), none], [], σ') → mWW f (mw0 e) sc0 3 (53, [some (.inr (.inr (71, 0))), some (.inl x1), some (.inl x2)], [], σ) := by
  intro n
  induction n with
  | zero =>
    intro x1 x2 σ σ' h hK
    cases h
  | succ n IH =>
    intro x1 x2 σ σ' h hK
    rw [L_X12_finds_53_s] at h
    refine m_blk C0 (pX12_ok rfl) kX12_finds_ok 31 3 (58, [some (.inr (.inr (71, 0))), some (.inl x1), some (.inl x2)], [.inl (σ 71 0 6), .inl x2], σ) (Ps := []) rfl trivial ?_
    refine b_ige C0 kX12_finds_ok 34 (off := 33) (tgt := 91) rfl (by decide) (fun hb1107 => ?_) (fun hb1107 => ?_)
    · replace h := g_pos hb1107 h
      cases h
      refine m_mask [true, true, false] (ls' := [some (.inr (.inr (71, 0))), some (.inl x1), none]) rfl ?_
      exact hK
    · replace h := g_neg hb1107 h
      refine m_blk C0 (pX12_ok rfl) kX12_finds_ok 35 6 (69, [some (.inr (.inr (71, 0))), some (.inl x1), some (.inl x2)], [.inl x1, .inl x2, .inr (.inr (71, 0)), .inr (.inr (71, 0)), .inr (.inr (78, 0))], σ) (Ps := []) rfl trivial ?_
      obtain ⟨⟨v1092, s1091⟩, hq1106, h⟩ := g_bind h
      refine c_V (rest := [.inr (.inr (71, 0)), .inr (.inr (78, 0))]) C0 hFr (t_X12_product hG f.2.1 N hq1106) lk_X12_128 (k_at kX12_finds_ok 41 rfl) rfl rfl rfl rfl ⟨_, _, rfl⟩ (by decide) (by decide) (Nat.le_of_ble_eq_true rfl) ?_
      refine m_blk C0 (pX12_ok rfl) kX12_finds_ok 42 2 (74, [some (.inr (.inr (71, 0))), some (.inl x1), some (.inl x2)], [.inl x2, .inr (.inr (71, 0)), .inl v1092, .inr (.inr (71, 0)), .inr (.inr (78, 0))], s1091) (Ps := []) rfl trivial ?_
      obtain ⟨⟨v1101, s1100⟩, hq1105, h⟩ := g_bind h
      refine c_V (rest := [.inl v1092, .inr (.inr (71, 0)), .inr (.inr (78, 0))]) C0 hFr (t_X12_back hG f.2.1 N hq1105) lk_X12_135 (k_at kX12_finds_ok 44 rfl) rfl rfl rfl rfl ⟨_, _, rfl⟩ (by decide) (by decide) (Nat.le_of_ble_eq_true rfl) ?_
      obtain ⟨⟨v1103, s1102⟩, hq1104, h⟩ := g_bind h
      refine c_V (rest := [.inr (.inr (78, 0))]) C0 hFr (t_X12_product hG f.2.1 N hq1104) lk_X12_128 (k_at kX12_finds_ok 45 rfl) rfl rfl rfl rfl ⟨_, _, rfl⟩ (by decide) (by decide) (Nat.le_of_ble_eq_true rfl) ?_
      obtain ⟨hc, h⟩ := g_if h
      refine m_blk C0 (pX12_ok rfl) kX12_finds_ok 46 3 (85, [some (.inr (.inr (71, 0))), some (.inl x1), some (.inl x2)], [], (mup s1102 78 0 v1103.toNat (s1102 71 0 10))) (Ps := [0 ≤ v1103 ∧ v1103 < 48]) rfl (And.intro hc trivial) ?_
      refine m_blk C0 (pX12_ok rfl) kX12_finds_ok 49 2 (53, [some (.inr (.inr (71, 0))), some (.inl x1), some (.inl (mw (x2 + 1)))], [], (mup s1102 78 0 v1103.toNat (s1102 71 0 10))) (Ps := []) rfl trivial ?_
      refine m_mask [true, true, true] (ls' := [some (.inr (.inr (71, 0))), some (.inl x1), some (.inl (mw (x2 + 1)))]) rfl ?_
      exact IH _ _ _ _ h hK
set_option maxRecDepth 100000 in
set_option maxHeartbeats 4000000 in
theorem p_X12_finds_30 {e : mEv} (hG : mGeo (mw0 e) lw_kept) (N : Nat) {f : mFx} (C0 : mCx f (mw0 e) sc0 cX12_finds 3 RX12 lw_kept) (hFr : mFr f 14) : ∀ (n : Nat) (x1 : Int) (σ : mS) (σ' : mS), L_X12_finds_30 N n x1 σ = some σ' → mWW f (mw0 e) sc0 3 (107, [some (.inr (.inr (71, 0))), none, none], [], σ') → mWW f (mw0 e) sc0 3 (30, [some (.inr (.inr (71, 0))), some (.inl x1), none], [], σ) := by
  intro n
  induction n with
  | zero =>
    intro x1 σ σ' h hK
    cases h
  | succ n IH =>
    intro x1 σ σ' h hK
    rw [L_X12_finds_30_s] at h
    refine m_blk C0 (pX12_ok rfl) kX12_finds_ok 18 3 (35, [some (.inr (.inr (71, 0))), some (.inl x1), none], [.inl (σ 71 0 6), .inl x1], σ) (Ps := []) rfl trivial ?_
    refine b_ige C0 kX12_finds_ok 21 (off := 72) (tgt := 107) rfl (by decide) (fun hb1111 => ?_) (fun hb1111 => ?_)
    · replace h := g_pos hb1111 h
      cases h
      refine m_mask [true, false, false] (ls' := [some (.inr (.inr (71, 0))), none, none]) rfl ?_
      exact hK
    · replace h := g_neg hb1111 h
      obtain ⟨hc, h⟩ := g_if h
      refine m_blk C0 (pX12_ok rfl) kX12_finds_ok 22 5 (45, [some (.inr (.inr (71, 0))), some (.inl x1), none], [.inl (-1), .inl (σ 78 0 x1.toNat)], σ) (Ps := [0 ≤ x1 ∧ x1 < 48]) rfl (And.intro hc trivial) ?_
      refine b_ieq C0 kX12_finds_ok 27 (off := 6) (tgt := 51) rfl (by decide) (fun hb1110 => ?_) (fun hb1110 => ?_)
      · replace h := g_pos hb1110 h
        refine m_blk C0 (pX12_ok rfl) kX12_finds_ok 29 2 (53, [some (.inr (.inr (71, 0))), some (.inl x1), some (.inl 0)], [], σ) (Ps := []) rfl trivial ?_
        obtain ⟨s1108, hq1109, h⟩ := g_bind h
        refine m_mask [true, true, true] (ls' := [some (.inr (.inr (71, 0))), some (.inl x1), some (.inl 0)]) rfl ?_
        refine p_X12_finds_53 hG N C0 hFr N _ _ _ _ hq1109 ?_
        refine m_blk C0 (pX12_ok rfl) kX12_finds_ok 51 6 (101, [some (.inr (.inr (71, 0))), some (.inl x1), none], [], (mup s1108 71 0 10 (mw ((s1108 71 0 10) + 1)))) (Ps := []) rfl trivial ?_
        refine m_blk C0 (pX12_ok rfl) kX12_finds_ok 57 2 (30, [some (.inr (.inr (71, 0))), some (.inl (mw (x1 + 1))), none], [], (mup s1108 71 0 10 (mw ((s1108 71 0 10) + 1)))) (Ps := []) rfl trivial ?_
        refine m_mask [true, true, false] (ls' := [some (.inr (.inr (71, 0))), some (.inl (mw (x1 + 1))), none]) rfl ?_
        exact IH _ _ _ h hK
      · replace h := g_neg hb1110 h
        refine m_blk C0 (pX12_ok rfl) kX12_finds_ok 28 1 (101, [some (.inr (.inr (71, 0))), some (.inl x1), none], [], σ) (Ps := []) rfl trivial ?_
        refine m_blk C0 (pX12_ok rfl) kX12_finds_ok 57 2 (30, [some (.inr (.inr (71, 0))), some (.inl (mw (x1 + 1))), none], [], σ) (Ps := []) rfl trivial ?_
        refine m_mask [true, true, false] (ls' := [some (.inr (.inr (71, 0))), some (.inl (mw (x1 + 1))), none]) rfl ?_
        exact IH _ _ _ h hK
set_option maxRecDepth 100000 in
set_option maxHeartbeats 4000000 in
theorem t_X12_finds {e : mEv} (hG : mGeo (mw0 e) lw_kept) (l : Launch) (N : Nat) {σ σ' : mS} (h : f_X12_finds N σ = some σ') : mMet l (mw0 e) lw_kept 14 yX12_finds cX12_finds 3 none [.inr (.inr (71, 0))] σ none σ' := by
  refine mMet_intro (plainFor_of_name (by decide)) hG (Nat.le_of_ble_eq_true rfl) (fun f hl hR C0 hFin => ?_)
  subst hl
  have hFr := mFr_of hR hFin
  unfold f_X12_finds at h
  show mWW f (mw0 e) sc0 3 (0, [some (.inr (.inr (71, 0))), none, none], [], σ)
  refine m_blk C0 (pX12_ok rfl) kX12_finds_ok 0 3 (5, [some (.inr (.inr (71, 0))), none, none], [], (mup σ 71 0 10 0)) (Ps := []) rfl trivial ?_
  refine m_blk C0 (pX12_ok rfl) kX12_finds_ok 3 2 (7, [some (.inr (.inr (71, 0))), some (.inl 0), none], [], (mup σ 71 0 10 0)) (Ps := []) rfl trivial ?_
  obtain ⟨s1078, hq1381, h⟩ := g_bind h
  refine m_mask [true, true, false] (ls' := [some (.inr (.inr (71, 0))), some (.inl 0), none]) rfl ?_
  refine p_X12_finds_7 hG N C0 hFr N _ _ _ hq1381 ?_
  refine m_blk C0 (pX12_ok rfl) kX12_finds_ok 16 2 (30, [some (.inr (.inr (71, 0))), some (.inl 0), none], [], s1078) (Ps := []) rfl trivial ?_
  obtain ⟨s1112, hq1380, h⟩ := g_bind h
  refine m_mask [true, true, false] (ls' := [some (.inr (.inr (71, 0))), some (.inl 0), none]) rfl ?_
  refine p_X12_finds_30 hG N C0 hFr N _ _ _ hq1380 ?_
  refine m_blk C0 (pX12_ok rfl) kX12_finds_ok 59 1 (108, [some (.inr (.inr (71, 0))), none, none], [.inr (.inr (71, 0))], s1112) (Ps := []) rfl trivial ?_
  obtain ⟨s1171, hq1379, h⟩ := g_bind h
  refine c_V (rest := []) C0 hFr (t_X12_findSigns hG f.2.1 N hq1379) lk_X12_138 (k_at kX12_finds_ok 60 rfl) rfl rfl rfl rfl ⟨_, _, rfl⟩ (by decide) (by decide) (Nat.le_of_ble_eq_true rfl) ?_
  refine m_blk C0 (pX12_ok rfl) kX12_finds_ok 61 1 (112, [some (.inr (.inr (71, 0))), none, none], [.inr (.inr (71, 0))], s1171) (Ps := []) rfl trivial ?_
  obtain ⟨s1377, hq1378, h⟩ := g_bind h
  refine c_V (rest := []) C0 hFr (t_X12_findFew hG f.2.1 N hq1378) lk_X12_141 (k_at kX12_finds_ok 62 rfl) rfl rfl rfl rfl ⟨_, _, rfl⟩ (by decide) (by decide) (Nat.le_of_ble_eq_true rfl) ?_
  cases h
  exact m_vret C0 hFin (k_at kX12_finds_ok 63 rfl)
set_option maxRecDepth 100000 in
set_option maxHeartbeats 4000000 in
theorem p_X12_group_31 {e : mEv} (hG : mGeo (mw0 e) lw_kept) (N : Nat) {f : mFx} (C0 : mCx f (mw0 e) sc0 cX12_group 6 RX12 lw_kept) (hFr : mFr f 15) : ∀ (n : Nat) (x1 : Int) (x2 : Int) (σ : mS) (σ' : mS), L_X12_group_31 N n x1 x2 σ = some σ' → mWW f (mw0 e) sc0 6 (65, [some (.inr (.inr (71, 0))), some (.inl x1), none, none, none, none], [], σ') → mWW f (mw0 e) sc0 6 (31, [some (.inr (.inr (71, 0))), some (.inl x1), some (.inl x2), none, none, none], [], σ) := by
  intro n
  induction n with
  | zero =>
    intro x1 x2 σ σ' h hK
    cases h
  | succ n IH =>
    intro x1 x2 σ σ' h hK
    rw [L_X12_group_31_s] at h
    refine m_blk C0 (pX12_ok rfl) kX12_group_ok 19 2 (33, [some (.inr (.inr (71, 0))), some (.inl x1), some (.inl x2), none, none, none], [.inl 3, .inl x2], σ) (Ps := []) rfl trivial ?_
    refine b_ige C0 kX12_group_ok 21 (off := 32) (tgt := 65) rfl (by decide) (fun hb1034 => ?_) (fun hb1034 => ?_)
    · replace h := g_pos hb1034 h
      cases h
      refine m_mask [true, true, false, false, false, false] (ls' := [some (.inr (.inr (71, 0))), some (.inl x1), none, none, none, none]) rfl ?_
      exact hK
    · replace h := g_neg hb1034 h
      obtain ⟨hc, h⟩ := g_if h
      refine m_blk C0 (pX12_ok rfl) kX12_group_ok 22 16 (58, [some (.inr (.inr (71, 0))), some (.inl x1), some (.inl x2), none, none, none], [.inl (σ 73 0 ((mw ((mw ((3 : Int) * x1)) + x2)).toNat)), .inl (mw ((mw ((3 : Int) * (σ 71 0 7))) + x2)), .inr (.inr (77, 0))], σ) (Ps := [0 ≤ (mw ((mw ((3 : Int) * x1)) + x2)) ∧ (mw ((mw ((3 : Int) * x1)) + x2)) < 12]) rfl (And.intro hc.1 trivial) ?_
      refine m_blk C0 (pX12_ok rfl) kX12_group_ok 38 1 (59, [some (.inr (.inr (71, 0))), some (.inl x1), some (.inl x2), none, none, none], [], (mup σ 77 0 ((mw ((mw ((3 : Int) * (σ 71 0 7))) + x2)).toNat) (σ 73 0 ((mw ((mw ((3 : Int) * x1)) + x2)).toNat)))) (Ps := [0 ≤ (mw ((mw ((3 : Int) * (σ 71 0 7))) + x2)) ∧ (mw ((mw ((3 : Int) * (σ 71 0 7))) + x2)) < 12]) rfl (And.intro hc.2 trivial) ?_
      refine m_blk C0 (pX12_ok rfl) kX12_group_ok 39 2 (31, [some (.inr (.inr (71, 0))), some (.inl x1), some (.inl (mw (x2 + 1))), none, none, none], [], (mup σ 77 0 ((mw ((mw ((3 : Int) * (σ 71 0 7))) + x2)).toNat) (σ 73 0 ((mw ((mw ((3 : Int) * x1)) + x2)).toNat)))) (Ps := []) rfl trivial ?_
      refine m_mask [true, true, true, false, false, false] (ls' := [some (.inr (.inr (71, 0))), some (.inl x1), some (.inl (mw (x2 + 1))), none, none, none]) rfl ?_
      exact IH _ _ _ _ h hK
set_option maxRecDepth 100000 in
set_option maxHeartbeats 4000000 in
theorem p_X12_group_12 {e : mEv} (hG : mGeo (mw0 e) lw_kept) (N : Nat) {f : mFx} (C0 : mCx f (mw0 e) sc0 cX12_group 6 RX12 lw_kept) (hFr : mFr f 15) : ∀ (n : Nat) (x1 : Int) (σ : mS) (σ' : mS), L_X12_group_12 N n x1 σ = some σ' → mWW f (mw0 e) sc0 6 (81, [some (.inr (.inr (71, 0))), none, none, none, none, none], [], σ') → mWW f (mw0 e) sc0 6 (12, [some (.inr (.inr (71, 0))), some (.inl x1), none, none, none, none], [], σ) := by
  intro n
  induction n with
  | zero =>
    intro x1 σ σ' h hK
    cases h
  | succ n IH =>
    intro x1 σ σ' h hK
    rw [L_X12_group_12_s] at h
    refine m_blk C0 (pX12_ok rfl) kX12_group_ok 8 2 (14, [some (.inr (.inr (71, 0))), some (.inl x1), none, none, none, none], [.inl 4, .inl x1], σ) (Ps := []) rfl trivial ?_
    refine b_ige C0 kX12_group_ok 10 (off := 67) (tgt := 81) rfl (by decide) (fun hb1038 => ?_) (fun hb1038 => ?_)
    · replace h := g_pos hb1038 h
      cases h
      refine m_mask [true, false, false, false, false, false] (ls' := [some (.inr (.inr (71, 0))), none, none, none, none, none]) rfl ?_
      exact hK
    · replace h := g_neg hb1038 h
      obtain ⟨hc, h⟩ := g_if h
      refine m_blk C0 (pX12_ok rfl) kX12_group_ok 11 4 (23, [some (.inr (.inr (71, 0))), some (.inl x1), none, none, none, none], [.inl (σ 72 0 x1.toNat)], σ) (Ps := [0 ≤ x1 ∧ x1 < 4]) rfl (And.intro hc trivial) ?_
      refine b_ne C0 kX12_group_ok 15 (off := 6) (tgt := 29) rfl (by decide) (fun hb1037 => ?_) (fun hb1037 => ?_)
      · replace h := g_neg hb1037 h
        refine m_blk C0 (pX12_ok rfl) kX12_group_ok 17 2 (31, [some (.inr (.inr (71, 0))), some (.inl x1), some (.inl 0), none, none, none], [], σ) (Ps := []) rfl trivial ?_
        obtain ⟨s1035, hq1036, h⟩ := g_bind h
        refine m_mask [true, true, true, false, false, false] (ls' := [some (.inr (.inr (71, 0))), some (.inl x1), some (.inl 0), none, none, none]) rfl ?_
        refine p_X12_group_31 hG N C0 hFr N _ _ _ _ hq1036 ?_
        refine m_blk C0 (pX12_ok rfl) kX12_group_ok 41 6 (75, [some (.inr (.inr (71, 0))), some (.inl x1), none, none, none, none], [], (mup s1035 71 0 7 (mw ((s1035 71 0 7) + 1)))) (Ps := []) rfl trivial ?_
        refine m_blk C0 (pX12_ok rfl) kX12_group_ok 47 2 (12, [some (.inr (.inr (71, 0))), some (.inl (mw (x1 + 1))), none, none, none, none], [], (mup s1035 71 0 7 (mw ((s1035 71 0 7) + 1)))) (Ps := []) rfl trivial ?_
        refine m_mask [true, true, false, false, false, false] (ls' := [some (.inr (.inr (71, 0))), some (.inl (mw (x1 + 1))), none, none, none, none]) rfl ?_
        exact IH _ _ _ h hK
      · replace h := g_pos hb1037 h
        refine m_blk C0 (pX12_ok rfl) kX12_group_ok 16 1 (75, [some (.inr (.inr (71, 0))), some (.inl x1), none, none, none, none], [], σ) (Ps := []) rfl trivial ?_
        refine m_blk C0 (pX12_ok rfl) kX12_group_ok 47 2 (12, [some (.inr (.inr (71, 0))), some (.inl (mw (x1 + 1))), none, none, none, none], [], σ) (Ps := []) rfl trivial ?_
        refine m_mask [true, true, false, false, false, false] (ls' := [some (.inr (.inr (71, 0))), some (.inl (mw (x1 + 1))), none, none, none, none]) rfl ?_
        exact IH _ _ _ h hK
set_option maxRecDepth 100000 in
set_option maxHeartbeats 4000000 in
theorem p_X12_group_93 {e : mEv} (hG : mGeo (mw0 e) lw_kept) (N : Nat) {f : mFx} (C0 : mCx f (mw0 e) sc0 cX12_group 6 RX12 lw_kept) (hFr : mFr f 15) : ∀ (n : Nat) (x1 : Int) (x2 : Int) (σ : mS) (σ' : mS), L_X12_group_93 N n x1 x2 σ = some σ' → mWW f (mw0 e) sc0 6 (321, [some (.inr (.inr (71, 0))), some (.inl x1), none, none, none, none], [], σ') → mWW f (mw0 e) sc0 6 (93, [some (.inr (.inr (71, 0))), some (.inl x1), some (.inl x2), none, none, none], [], σ) := by
  intro n
  induction n with
  | zero =>
    intro x1 x2 σ σ' h hK
    cases h
  | succ n IH =>
    intro x1 x2 σ σ' h hK
    rw [L_X12_group_93_s] at h
    refine m_blk C0 (pX12_ok rfl) kX12_group_ok 57 3 (98, [some (.inr (.inr (71, 0))), some (.inl x1), some (.inl x2), none, none, none], [.inl (σ 71 0 7), .inl x2], σ) (Ps := []) rfl trivial ?_
    refine b_ige C0 kX12_group_ok 60 (off := 223) (tgt := 321) rfl (by decide) (fun hb1072 => ?_) (fun hb1072 => ?_)
    · replace h := g_pos hb1072 h
      cases h
      refine m_mask [true, true, false, false, false, false] (ls' := [some (.inr (.inr (71, 0))), some (.inl x1), none, none, none, none]) rfl ?_
      exact hK
    · replace h := g_neg hb1072 h
      obtain ⟨hc, h⟩ := g_if h
      refine m_blk C0 (pX12_ok rfl) kX12_group_ok 61 16 (123, [some (.inr (.inr (71, 0))), some (.inl x1), some (.inl x2), none, none, none], [.inl x2, .inl 3, .inr (.inr (77, 0)), .inl (σ 77 0 ((mw ((3 : Int) * x2)).toNat)), .inl (σ 74 0 ((mw ((3 : Int) * x1)).toNat))], σ) (Ps := [0 ≤ (mw ((3 : Int) * x1)) ∧ (mw ((3 : Int) * x1)) < 144, 0 ≤ (mw ((3 : Int) * x2)) ∧ (mw ((3 : Int) * x2)) < 12]) rfl (And.intro hc.1 (And.intro hc.2.1 trivial)) ?_
      refine m_blk C0 (pX12_ok rfl) kX12_group_ok 77 12 (137, [some (.inr (.inr (71, 0))), some (.inl x1), some (.inl x2), none, none, none], [.inl (σ 77 0 ((mw ((mw ((3 : Int) * x2)) + 2)).toNat)), .inl (σ 77 0 ((mw ((mw ((3 : Int) * x2)) + 1)).toNat)), .inl (σ 77 0 ((mw ((3 : Int) * x2)).toNat)), .inl (σ 74 0 ((mw ((3 : Int) * x1)).toNat))], σ) (Ps := [0 ≤ (mw ((mw ((3 : Int) * x2)) + 1)) ∧ (mw ((mw ((3 : Int) * x2)) + 1)) < 12, 0 ≤ (mw ((mw ((3 : Int) * x2)) + 2)) ∧ (mw ((mw ((3 : Int) * x2)) + 2)) < 12]) rfl (And.intro hc.2.2.1 (And.intro hc.2.2.2 trivial)) ?_
      obtain ⟨⟨v1052, s1051⟩, hq1071, h⟩ := g_bind h
      refine c_S (rest := []) C0 hFr (t_X12_then hG f.2.1 N hq1071) lk_X12_117 (k_at kX12_group_ok 89 rfl) rfl rfl rfl (by decide) (by decide) (Nat.le_of_ble_eq_true rfl) ?_
      obtain ⟨hc, h⟩ := g_if h
      refine m_blk C0 (pX12_ok rfl) kX12_group_ok 90 16 (160, [some (.inr (.inr (71, 0))), some (.inl x1), some (.inl x2), some (.inl v1052), none, none], [.inr (.inr (71, 0)), .inl (s1051 77 0 ((mw ((3 : Int) * x2)).toNat)), .inl (s1051 74 0 ((mw ((mw ((3 : Int) * x1)) + 1)).toNat))], s1051) (Ps := [0 ≤ (mw ((mw ((3 : Int) * x1)) + 1)) ∧ (mw ((mw ((3 : Int) * x1)) + 1)) < 144, 0 ≤ (mw ((3 : Int) * x2)) ∧ (mw ((3 : Int) * x2)) < 12]) rfl (And.intro hc.1 (And.intro hc.2.1 trivial)) ?_
      refine m_blk C0 (pX12_ok rfl) kX12_group_ok 106 15 (179, [some (.inr (.inr (71, 0))), some (.inl x1), some (.inl x2), some (.inl v1052), none, none], [.inl (s1051 77 0 ((mw ((mw ((3 : Int) * x2)) + 2)).toNat)), .inl (s1051 77 0 ((mw ((mw ((3 : Int) * x2)) + 1)).toNat)), .inl (s1051 77 0 ((mw ((3 : Int) * x2)).toNat)), .inl (s1051 74 0 ((mw ((mw ((3 : Int) * x1)) + 1)).toNat))], s1051) (Ps := [0 ≤ (mw ((mw ((3 : Int) * x2)) + 1)) ∧ (mw ((mw ((3 : Int) * x2)) + 1)) < 12, 0 ≤ (mw ((mw ((3 : Int) * x2)) + 2)) ∧ (mw ((mw ((3 : Int) * x2)) + 2)) < 12]) rfl (And.intro hc.2.2.1 (And.intro hc.2.2.2 trivial)) ?_
      obtain ⟨⟨v1054, s1053⟩, hq1070, h⟩ := g_bind h
      refine c_S (rest := []) C0 hFr (t_X12_then hG f.2.1 N hq1070) lk_X12_117 (k_at kX12_group_ok 121 rfl) rfl rfl rfl (by decide) (by decide) (Nat.le_of_ble_eq_true rfl) ?_
      obtain ⟨hc, h⟩ := g_if h
      refine m_blk C0 (pX12_ok rfl) kX12_group_ok 122 16 (203, [some (.inr (.inr (71, 0))), some (.inl x1), some (.inl x2), some (.inl v1052), some (.inl v1054), none], [.inr (.inr (71, 0)), .inl (s1053 77 0 ((mw ((3 : Int) * x2)).toNat)), .inl (s1053 74 0 ((mw ((mw ((3 : Int) * x1)) + 2)).toNat))], s1053) (Ps := [0 ≤ (mw ((mw ((3 : Int) * x1)) + 2)) ∧ (mw ((mw ((3 : Int) * x1)) + 2)) < 144, 0 ≤ (mw ((3 : Int) * x2)) ∧ (mw ((3 : Int) * x2)) < 12]) rfl (And.intro hc.1 (And.intro hc.2.1 trivial)) ?_
      refine m_blk C0 (pX12_ok rfl) kX12_group_ok 138 15 (222, [some (.inr (.inr (71, 0))), some (.inl x1), some (.inl x2), some (.inl v1052), some (.inl v1054), none], [.inl (s1053 77 0 ((mw ((mw ((3 : Int) * x2)) + 2)).toNat)), .inl (s1053 77 0 ((mw ((mw ((3 : Int) * x2)) + 1)).toNat)), .inl (s1053 77 0 ((mw ((3 : Int) * x2)).toNat)), .inl (s1053 74 0 ((mw ((mw ((3 : Int) * x1)) + 2)).toNat))], s1053) (Ps := [0 ≤ (mw ((mw ((3 : Int) * x2)) + 1)) ∧ (mw ((mw ((3 : Int) * x2)) + 1)) < 12, 0 ≤ (mw ((mw ((3 : Int) * x2)) + 2)) ∧ (mw ((mw ((3 : Int) * x2)) + 2)) < 12]) rfl (And.intro hc.2.2.1 (And.intro hc.2.2.2 trivial)) ?_
      obtain ⟨⟨v1056, s1055⟩, hq1069, h⟩ := g_bind h
      refine c_S (rest := []) C0 hFr (t_X12_then hG f.2.1 N hq1069) lk_X12_117 (k_at kX12_group_ok 153 rfl) rfl rfl rfl (by decide) (by decide) (Nat.le_of_ble_eq_true rfl) ?_
      refine m_blk C0 (pX12_ok rfl) kX12_group_ok 154 5 (233, [some (.inr (.inr (71, 0))), some (.inl x1), some (.inl x2), some (.inl v1052), some (.inl v1054), some (.inl v1056)], [.inl v1056, .inl v1054, .inl v1052, .inr (.inr (71, 0))], s1055) (Ps := []) rfl trivial ?_
      obtain ⟨⟨v1066, s1065⟩, hq1068, h⟩ := g_bind h
      refine c_V (rest := []) C0 hFr (t_X12_find hG f.2.1 N hq1068) lk_X12_121 (k_at kX12_group_ok 159 rfl) rfl rfl rfl rfl ⟨_, _, rfl⟩ (by decide) (by decide) (Nat.le_of_ble_eq_true rfl) ?_
      refine m_blk C0 (pX12_ok rfl) kX12_group_ok 160 1 (237, [some (.inr (.inr (71, 0))), some (.inl x1), some (.inl x2), some (.inl v1052), some (.inl v1054), some (.inl v1056)], [.inl (-1), .inl v1066], s1065) (Ps := []) rfl trivial ?_
      refine b_ieq C0 kX12_group_ok 161 (off := 6) (tgt := 243) rfl (by decide) (fun hb1067 => ?_) (fun hb1067 => ?_)
      · replace h := g_pos hb1067 h
        obtain ⟨hc, h⟩ := g_if h
        refine m_blk C0 (pX12_ok rfl) kX12_group_ok 163 8 (255, [some (.inr (.inr (71, 0))), some (.inl x1), some (.inl x2), some (.inl v1052), some (.inl v1054), some (.inl v1056)], [], (mup s1065 74 0 ((mw ((3 : Int) * (s1065 71 0 6))).toNat) v1052)) (Ps := [0 ≤ (mw ((3 : Int) * (s1065 71 0 6))) ∧ (mw ((3 : Int) * (s1065 71 0 6))) < 144]) rfl (And.intro hc.1 trivial) ?_
        refine m_blk C0 (pX12_ok rfl) kX12_group_ok 171 10 (270, [some (.inr (.inr (71, 0))), some (.inl x1), some (.inl x2), some (.inl v1052), some (.inl v1054), some (.inl v1056)], [], (mup (mup s1065 74 0 ((mw ((3 : Int) * (s1065 71 0 6))).toNat) v1052) 74 0 ((mw ((mw ((3 : Int) * (s1065 71 0 6))) + 1)).toNat) v1054)) (Ps := [0 ≤ (mw ((mw ((3 : Int) * (s1065 71 0 6))) + 1)) ∧ (mw ((mw ((3 : Int) * (s1065 71 0 6))) + 1)) < 144]) rfl (And.intro hc.2.1 trivial) ?_
        refine m_blk C0 (pX12_ok rfl) kX12_group_ok 181 10 (285, [some (.inr (.inr (71, 0))), some (.inl x1), some (.inl x2), some (.inl v1052), some (.inl v1054), some (.inl v1056)], [], (mup (mup (mup s1065 74 0 ((mw ((3 : Int) * (s1065 71 0 6))).toNat) v1052) 74 0 ((mw ((mw ((3 : Int) * (s1065 71 0 6))) + 1)).toNat) v1054) 74 0 ((mw ((mw ((3 : Int) * (s1065 71 0 6))) + 2)).toNat) v1056)) (Ps := [0 ≤ (mw ((mw ((3 : Int) * (s1065 71 0 6))) + 2)) ∧ (mw ((mw ((3 : Int) * (s1065 71 0 6))) + 2)) < 144]) rfl (And.intro hc.2.2.1 trivial) ?_
        refine m_blk C0 (pX12_ok rfl) kX12_group_ok 191 6 (295, [some (.inr (.inr (71, 0))), some (.inl x1), some (.inl x2), some (.inl v1052), some (.inl v1054), some (.inl v1056)], [], (mup (mup (mup (mup s1065 74 0 ((mw ((3 : Int) * (s1065 71 0 6))).toNat) v1052) 74 0 ((mw ((mw ((3 : Int) * (s1065 71 0 6))) + 1)).toNat) v1054) 74 0 ((mw ((mw ((3 : Int) * (s1065 71 0 6))) + 2)).toNat) v1056) 75 0 ((s1065 71 0 6).toNat) x1)) (Ps := [0 ≤ (s1065 71 0 6) ∧ (s1065 71 0 6) < 48]) rfl (And.intro hc.2.2.2 trivial) ?_
        refine m_blk C0 (pX12_ok rfl) kX12_group_ok 197 6 (305, [some (.inr (.inr (71, 0))), some (.inl x1), some (.inl x2), some (.inl v1052), some (.inl v1054), some (.inl v1056)], [], (mup (mup (mup (mup (mup s1065 74 0 ((mw ((3 : Int) * (s1065 71 0 6))).toNat) v1052) 74 0 ((mw ((mw ((3 : Int) * (s1065 71 0 6))) + 1)).toNat) v1054) 74 0 ((mw ((mw ((3 : Int) * (s1065 71 0 6))) + 2)).toNat) v1056) 75 0 ((s1065 71 0 6).toNat) x1) 76 0 ((s1065 71 0 6).toNat) x2)) (Ps := [0 ≤ (s1065 71 0 6) ∧ (s1065 71 0 6) < 48]) rfl (And.intro hc.2.2.2 trivial) ?_
        refine m_blk C0 (pX12_ok rfl) kX12_group_ok 203 6 (315, [some (.inr (.inr (71, 0))), some (.inl x1), some (.inl x2), some (.inl v1052), some (.inl v1054), some (.inl v1056)], [], (mup (mup (mup (mup (mup (mup s1065 74 0 ((mw ((3 : Int) * (s1065 71 0 6))).toNat) v1052) 74 0 ((mw ((mw ((3 : Int) * (s1065 71 0 6))) + 1)).toNat) v1054) 74 0 ((mw ((mw ((3 : Int) * (s1065 71 0 6))) + 2)).toNat) v1056) 75 0 ((s1065 71 0 6).toNat) x1) 76 0 ((s1065 71 0 6).toNat) x2) 71 0 6 (mw ((s1065 71 0 6) + 1)))) (Ps := []) rfl trivial ?_
        refine m_blk C0 (pX12_ok rfl) kX12_group_ok 209 2 (93, [some (.inr (.inr (71, 0))), some (.inl x1), some (.inl (mw (x2 + 1))), some (.inl v1052), some (.inl v1054), some (.inl v1056)], [], (mup (mup (mup (mup (mup (mup s1065 74 0 ((mw ((3 : Int) * (s1065 71 0 6))).toNat) v1052) 74 0 ((mw ((mw ((3 : Int) * (s1065 71 0 6))) + 1)).toNat) v1054) 74 0 ((mw ((mw ((3 : Int) * (s1065 71 0 6))) + 2)).toNat) v1056) 75 0 ((s1065 71 0 6).toNat) x1) 76 0 ((s1065 71 0 6).toNat) x2) 71 0 6 (mw ((s1065 71 0 6) + 1)))) (Ps := []) rfl trivial ?_
        refine m_mask [true, true, true, false, false, false] (ls' := [some (.inr (.inr (71, 0))), some (.inl x1), some (.inl (mw (x2 + 1))), none, none, none]) rfl ?_
        exact IH _ _ _ _ h hK
      · replace h := g_neg hb1067 h
        refine m_blk C0 (pX12_ok rfl) kX12_group_ok 162 1 (315, [some (.inr (.inr (71, 0))), some (.inl x1), some (.inl x2), some (.inl v1052), some (.inl v1054), some (.inl v1056)], [], s1065) (Ps := []) rfl trivial ?_
        refine m_blk C0 (pX12_ok rfl) kX12_group_ok 209 2 (93, [some (.inr (.inr (71, 0))), some (.inl x1), some (.inl (mw (x2 + 1))), some (.inl v1052), some (.inl v1054), some (.inl v1056)], [], s1065) (Ps := []) rfl trivial ?_
        refine m_mask [true, true, true, false, false, false] (ls' := [some (.inr (.inr (71, 0))), some (.inl x1), some (.inl (mw (x2 + 1))), none, none, none]) rfl ?_
        exact IH _ _ _ _ h hK
set_option maxRecDepth 100000 in
set_option maxHeartbeats 4000000 in
theorem p_X12_group_83 {e : mEv} (hG : mGeo (mw0 e) lw_kept) (N : Nat) {f : mFx} (C0 : mCx f (mw0 e) sc0 cX12_group 6 RX12 lw_kept) (hFr : mFr f 15) : ∀ (n : Nat) (x1 : Int) (σ : mS) (σ' : mS), L_X12_group_83 N n x1 σ = some σ' → mWW f (mw0 e) sc0 6 (327, [some (.inr (.inr (71, 0))), none, none, none, none, none], [], σ') → mWW f (mw0 e) sc0 6 (83, [some (.inr (.inr (71, 0))), some (.inl x1), none, none, none, none], [], σ) := by
  intro n
  induction n with
  | zero =>
    intro x1 σ σ' h hK
    cases h
  | succ n IH =>
    intro x1 σ σ' h hK
    rw [L_X12_group_83_s] at h
    refine m_blk C0 (pX12_ok rfl) kX12_group_ok 51 3 (88, [some (.inr (.inr (71, 0))), some (.inl x1), none, none, none, none], [.inl (σ 71 0 6), .inl x1], σ) (Ps := []) rfl trivial ?_
    refine b_ige C0 kX12_group_ok 54 (off := 239) (tgt := 327) rfl (by decide) (fun hb1075 => ?_) (fun hb1075 => ?_)
    · replace h := g_pos hb1075 h
      cases h
      refine m_mask [true, false, false, false, false, false] (ls' := [some (.inr (.inr (71, 0))), none, none, none, none, none]) rfl ?_
      exact hK
    · replace h := g_neg hb1075 h
      refine m_blk C0 (pX12_ok rfl) kX12_group_ok 55 2 (93, [some (.inr (.inr (71, 0))), some (.inl x1), some (.inl 0), none, none, none], [], σ) (Ps := []) rfl trivial ?_
      obtain ⟨s1073, hq1074, h⟩ := g_bind h
      refine m_mask [true, true, true, false, false, false] (ls' := [some (.inr (.inr (71, 0))), some (.inl x1), some (.inl 0), none, none, none]) rfl ?_
      refine p_X12_group_93 hG N C0 hFr N _ _ _ _ hq1074 ?_
      refine m_blk C0 (pX12_ok rfl) kX12_group_ok 211 2 (83, [some (.inr (.inr (71, 0))), some (.inl (mw (x1 + 1))), none, none, none, none], [], s1073) (Ps := []) rfl trivial ?_
      refine m_mask [true, true, false, false, false, false] (ls' := [some (.inr (.inr (71, 0))), some (.inl (mw (x1 + 1))), none, none, none, none]) rfl ?_
      exact IH _ _ _ h hK
set_option maxRecDepth 100000 in
set_option maxHeartbeats 4000000 in
theorem t_X12_group {e : mEv} (hG : mGeo (mw0 e) lw_kept) (l : Launch) (N : Nat) {σ σ' : mS} {v : Int} (h : f_X12_group N σ = some (v, σ')) : mMet l (mw0 e) lw_kept 15 yX12_group cX12_group 6 (some .int) [.inr (.inr (71, 0))] σ (some (.inl v)) σ' := by
  refine mMet_intro (plainFor_of_name (by decide)) hG (Nat.le_of_ble_eq_true rfl) (fun f hl hR C0 hFin => ?_)
  subst hl
  have hFr := mFr_of hR hFin
  unfold f_X12_group at h
  show mWW f (mw0 e) sc0 6 (0, [some (.inr (.inr (71, 0))), none, none, none, none, none], [], σ)
  refine m_blk C0 (pX12_ok rfl) kX12_group_ok 0 3 (5, [some (.inr (.inr (71, 0))), none, none, none, none, none], [], (mup σ 71 0 6 1)) (Ps := []) rfl trivial ?_
  refine m_blk C0 (pX12_ok rfl) kX12_group_ok 3 3 (10, [some (.inr (.inr (71, 0))), none, none, none, none, none], [], (mup (mup σ 71 0 6 1) 71 0 7 0)) (Ps := []) rfl trivial ?_
  refine m_blk C0 (pX12_ok rfl) kX12_group_ok 6 2 (12, [some (.inr (.inr (71, 0))), some (.inl 0), none, none, none, none], [], (mup (mup σ 71 0 6 1) 71 0 7 0)) (Ps := []) rfl trivial ?_
  obtain ⟨s1039, hq1385, h⟩ := g_bind h
  refine m_mask [true, true, false, false, false, false] (ls' := [some (.inr (.inr (71, 0))), some (.inl 0), none, none, none, none]) rfl ?_
  refine p_X12_group_12 hG N C0 hFr N _ _ _ hq1385 ?_
  refine m_blk C0 (pX12_ok rfl) kX12_group_ok 49 2 (83, [some (.inr (.inr (71, 0))), some (.inl 0), none, none, none, none], [], s1039) (Ps := []) rfl trivial ?_
  obtain ⟨s1076, hq1384, h⟩ := g_bind h
  refine m_mask [true, true, false, false, false, false] (ls' := [some (.inr (.inr (71, 0))), some (.inl 0), none, none, none, none]) rfl ?_
  refine p_X12_group_83 hG N C0 hFr N _ _ _ hq1384 ?_
  refine m_blk C0 (pX12_ok rfl) kX12_group_ok 213 1 (328, [some (.inr (.inr (71, 0))), none, none, none, none, none], [.inr (.inr (71, 0))], s1076) (Ps := []) rfl trivial ?_
  obtain ⟨s1382, hq1383, h⟩ := g_bind h
  refine c_V (rest := []) C0 hFr (t_X12_finds hG f.2.1 N hq1383) lk_X12_97 (k_at kX12_group_ok 214 rfl) rfl rfl rfl rfl ⟨_, _, rfl⟩ (by decide) (by decide) (Nat.le_of_ble_eq_true rfl) ?_
  refine m_blk C0 (pX12_ok rfl) kX12_group_ok 215 2 (335, [some (.inr (.inr (71, 0))), none, none, none, none, none], [.inl (s1382 71 0 6)], s1382) (Ps := []) rfl trivial ?_
  cases h
  exact m_iret C0 hFin (k_at kX12_group_ok 217 rfl) (Or.inl rfl)
set_option maxRecDepth 100000 in
set_option maxHeartbeats 4000000 in
theorem p_X12_order_4 {e : mEv} (hG : mGeo (mw0 e) lw_kept) (N : Nat) {f : mFx} (C0 : mCx f (mw0 e) sc0 cX12_order 4 RX12 lw_kept) (hFr : mFr f 3) : ∀ (n : Nat) (x1 : Int) (x2 : Int) (x3 : Int) (σ : mS) (o2 : Int) (σ' : mS), L_X12_order_4 N n x1 x2 x3 σ = some (o2, σ') → mWW f (mw0 e) sc0 4 (21, [none, none, some (.inl o2), none], [], σ') → mWW f (mw0 e) sc0 4 (4, [some (.inr (.inr (71, 0))), some (.inl x1), some (.inl x2), some (.inl x3)], [], σ) := by
  intro n
  induction n with
  | zero =>
    intro x1 x2 x3 σ o2 σ' h hK
    cases h
  | succ n IH =>
    intro x1 x2 x3 σ o2 σ' h hK
    rw [L_X12_order_4_s] at h
    refine m_blk C0 (pX12_ok rfl) kX12_order_ok 4 1 (5, [some (.inr (.inr (71, 0))), some (.inl x1), some (.inl x2), some (.inl x3)], [.inl x3], σ) (Ps := []) rfl trivial ?_
    refine b_eq C0 kX12_order_ok 5 (off := 16) (tgt := 21) rfl (by decide) (fun hb1395 => ?_) (fun hb1395 => ?_)
    · replace h := g_pos hb1395 h
      cases h
      refine m_mask [false, false, true, false] (ls' := [none, none, some (.inl x2), none]) rfl ?_
      exact hK
    · replace h := g_neg hb1395 h
      refine m_blk C0 (pX12_ok rfl) kX12_order_ok 6 4 (14, [some (.inr (.inr (71, 0))), some (.inl x1), some (.inl (mw (x2 + 1))), some (.inl x3)], [.inl x1, .inl x3, .inr (.inr (71, 0))], σ) (Ps := []) rfl trivial ?_
      obtain ⟨⟨v1393, s1392⟩, hq1394, h⟩ := g_bind h
      refine c_V (rest := []) C0 hFr (t_X12_product hG f.2.1 N hq1394) lk_X12_128 (k_at kX12_order_ok 10 rfl) rfl rfl rfl rfl ⟨_, _, rfl⟩ (by decide) (by decide) (Nat.le_of_ble_eq_true rfl) ?_
      refine m_blk C0 (pX12_ok rfl) kX12_order_ok 11 2 (4, [some (.inr (.inr (71, 0))), some (.inl x1), some (.inl (mw (x2 + 1))), some (.inl v1393)], [], s1392) (Ps := []) rfl trivial ?_
      refine m_mask [true, true, true, true] (ls' := [some (.inr (.inr (71, 0))), some (.inl x1), some (.inl (mw (x2 + 1))), some (.inl v1393)]) rfl ?_
      exact IH _ _ _ _ _ _ h hK
set_option maxRecDepth 100000 in
set_option maxHeartbeats 4000000 in
theorem t_X12_order {e : mEv} (hG : mGeo (mw0 e) lw_kept) (l : Launch) (N : Nat) {a1 : Int} {σ σ' : mS} {v : Int} (h : f_X12_order N a1 σ = some (v, σ')) : mMet l (mw0 e) lw_kept 3 yX12_order cX12_order 4 (some .int) [.inr (.inr (71, 0)), .inl a1] σ (some (.inl v)) σ' := by
  refine mMet_intro (plainFor_of_name (by decide)) hG (Nat.le_of_ble_eq_true rfl) (fun f hl hR C0 hFin => ?_)
  subst hl
  have hFr := mFr_of hR hFin
  unfold f_X12_order at h
  show mWW f (mw0 e) sc0 4 (0, [some (.inr (.inr (71, 0))), some (.inl a1), none, none], [], σ)
  refine m_blk C0 (pX12_ok rfl) kX12_order_ok 0 4 (4, [some (.inr (.inr (71, 0))), some (.inl a1), some (.inl 1), some (.inl a1)], [], σ) (Ps := []) rfl trivial ?_
  obtain ⟨⟨o1397, s1396⟩, hq1398, h⟩ := g_bind h
  refine m_mask [true, true, true, true] (ls' := [some (.inr (.inr (71, 0))), some (.inl a1), some (.inl 1), some (.inl a1)]) rfl ?_
  refine p_X12_order_4 hG N C0 hFr N _ _ _ _ _ _ hq1398 ?_
  refine m_blk C0 (pX12_ok rfl) kX12_order_ok 13 1 (22, [none, none, some (.inl o1397), none], [.inl o1397], s1396) (Ps := []) rfl trivial ?_
  cases h
  exact m_iret C0 hFin (k_at kX12_order_ok 14 rfl) (Or.inl rfl)
set_option maxRecDepth 100000 in
set_option maxHeartbeats 4000000 in
theorem t_X12_to {e : mEv} (hG : mGeo (mw0 e) lw_kept) (l : Launch) (N : Nat) {a1 : Int} {a2 : Int} {σ σ' : mS} {v : Int} (h : f_X12_to N a1 a2 σ = some (v, σ')) : mMet l (mw0 e) lw_kept 1 yX12_to cX12_to 3 (some .int) [.inr (.inr (71, 0)), .inl a1, .inl a2] σ (some (.inl v)) σ' := by
  refine mMet_intro (plainFor_of_name (by decide)) hG (Nat.le_of_ble_eq_true rfl) (fun f hl hR C0 hFin => ?_)
  subst hl
  have hFr := mFr_of hR hFin
  unfold f_X12_to at h
  show mWW f (mw0 e) sc0 3 (0, [some (.inr (.inr (71, 0))), some (.inl a1), some (.inl a2)], [], σ)
  obtain ⟨hc, h⟩ := g_if h
  refine m_blk C0 (pX12_ok rfl) kX12_to_ok 0 8 (10, [some (.inr (.inr (71, 0))), some (.inl a1), some (.inl a2)], [.inl (σ 74 0 ((mw ((mw ((3 : Int) * a1)) + a2)).toNat))], σ) (Ps := [0 ≤ (mw ((mw ((3 : Int) * a1)) + a2)) ∧ (mw ((mw ((3 : Int) * a1)) + a2)) < 144]) rfl (And.intro hc trivial) ?_
  obtain ⟨⟨v1418, s1417⟩, hq1419, h⟩ := g_bind h
  refine c_S (rest := []) C0 hFr (t_X12_size hG f.2.1 N hq1419) lk_X12_106 (k_at kX12_to_ok 8 rfl) rfl rfl rfl (by decide) (by decide) (Nat.le_of_ble_eq_true rfl) ?_
  refine m_blk C0 (pX12_ok rfl) kX12_to_ok 9 2 (15, [some (.inr (.inr (71, 0))), some (.inl a1), some (.inl a2)], [.inl (mw (v1418 - 1))], s1417) (Ps := []) rfl trivial ?_
  cases h
  exact m_iret C0 hFin (k_at kX12_to_ok 11 rfl) (Or.inl rfl)
set_option maxRecDepth 100000 in
set_option maxHeartbeats 4000000 in
theorem p_X12_ringLeast_10 {e : mEv} (hG : mGeo (mw0 e) lw_kept) (N : Nat) {f : mFx} (C0 : mCx f (mw0 e) sc0 cX12_ringLeast 5 RX12 lw_kept) (hFr : mFr f 2) : ∀ (n : Nat) (x1 : Int) (x2 : Int) (x3 : Int) (x4 : Int) (σ : mS) (o3 : Int) (σ' : mS), L_X12_ringLeast_10 N n x1 x2 x3 x4 σ = some (o3, σ') → mWW f (mw0 e) sc0 5 (41, [none, none, none, some (.inl o3), none], [], σ') → mWW f (mw0 e) sc0 5 (10, [some (.inr (.inr (71, 0))), some (.inl x1), some (.inl x2), some (.inl x3), some (.inl x4)], [], σ) := by
  intro n
  induction n with
  | zero =>
    intro x1 x2 x3 x4 σ o3 σ' h hK
    cases h
  | succ n IH =>
    intro x1 x2 x3 x4 σ o3 σ' h hK
    rw [L_X12_ringLeast_10_s] at h
    refine m_blk C0 (pX12_ok rfl) kX12_ringLeast_ok 7 2 (13, [some (.inr (.inr (71, 0))), some (.inl x1), some (.inl x2), some (.inl x3), some (.inl x4)], [.inl x2, .inl x4], σ) (Ps := []) rfl trivial ?_
    refine b_ieq C0 kX12_ringLeast_ok 9 (off := 28) (tgt := 41) rfl (by decide) (fun hb1429 => ?_) (fun hb1429 => ?_)
    · replace h := g_pos hb1429 h
      cases h
      refine m_mask [false, false, false, true, false] (ls' := [none, none, none, some (.inl x3), none]) rfl ?_
      exact hK
    · replace h := g_neg hb1429 h
      refine m_blk C0 (pX12_ok rfl) kX12_ringLeast_ok 10 2 (19, [some (.inr (.inr (71, 0))), some (.inl x1), some (.inl x2), some (.inl x3), some (.inl x4)], [.inl x3, .inl x4], σ) (Ps := []) rfl trivial ?_
      refine b_ige C0 kX12_ringLeast_ok 12 (off := 8) (tgt := 27) rfl (by decide) (fun hb1428 => ?_) (fun hb1428 => ?_)
      · replace h := g_pos hb1428 h
        refine m_blk C0 (pX12_ok rfl) kX12_ringLeast_ok 15 5 (33, [some (.inr (.inr (71, 0))), some (.inl x1), some (.inl x2), some (.inl x3), some (.inl x4)], [.inl x4, .inl x1, .inr (.inr (71, 0))], σ) (Ps := []) rfl trivial ?_
        obtain ⟨⟨v1423, s1422⟩, hq1424, h⟩ := g_bind h
        refine c_V (rest := []) C0 hFr (t_X12_to hG f.2.1 N hq1424) lk_X12_162 (k_at kX12_ringLeast_ok 20 rfl) rfl rfl rfl rfl ⟨_, _, rfl⟩ (by decide) (by decide) (Nat.le_of_ble_eq_true rfl) ?_
        refine m_blk C0 (pX12_ok rfl) kX12_ringLeast_ok 21 2 (10, [some (.inr (.inr (71, 0))), some (.inl x1), some (.inl x2), some (.inl x3), some (.inl v1423)], [], s1422) (Ps := []) rfl trivial ?_
        refine m_mask [true, true, true, true, true] (ls' := [some (.inr (.inr (71, 0))), some (.inl x1), some (.inl x2), some (.inl x3), some (.inl v1423)]) rfl ?_
        exact IH _ _ _ _ _ _ _ h hK
      · replace h := g_neg hb1428 h
        refine m_blk C0 (pX12_ok rfl) kX12_ringLeast_ok 13 2 (28, [some (.inr (.inr (71, 0))), some (.inl x1), some (.inl x2), some (.inl x3), some (.inl x4)], [.inl x4], σ) (Ps := []) rfl trivial ?_
        refine m_blk C0 (pX12_ok rfl) kX12_ringLeast_ok 16 4 (33, [some (.inr (.inr (71, 0))), some (.inl x1), some (.inl x2), some (.inl x4), some (.inl x4)], [.inl x4, .inl x1, .inr (.inr (71, 0))], σ) (Ps := []) rfl trivial ?_
        obtain ⟨⟨v1426, s1425⟩, hq1427, h⟩ := g_bind h
        refine c_V (rest := []) C0 hFr (t_X12_to hG f.2.1 N hq1427) lk_X12_162 (k_at kX12_ringLeast_ok 20 rfl) rfl rfl rfl rfl ⟨_, _, rfl⟩ (by decide) (by decide) (Nat.le_of_ble_eq_true rfl) ?_
        refine m_blk C0 (pX12_ok rfl) kX12_ringLeast_ok 21 2 (10, [some (.inr (.inr (71, 0))), some (.inl x1), some (.inl x2), some (.inl x4), some (.inl v1426)], [], s1425) (Ps := []) rfl trivial ?_
        refine m_mask [true, true, true, true, true] (ls' := [some (.inr (.inr (71, 0))), some (.inl x1), some (.inl x2), some (.inl x4), some (.inl v1426)]) rfl ?_
        exact IH _ _ _ _ _ _ _ h hK
set_option maxRecDepth 100000 in
set_option maxHeartbeats 4000000 in
theorem t_X12_ringLeast {e : mEv} (hG : mGeo (mw0 e) lw_kept) (l : Launch) (N : Nat) {a1 : Int} {a2 : Int} {σ σ' : mS} {v : Int} (h : f_X12_ringLeast N a1 a2 σ = some (v, σ')) : mMet l (mw0 e) lw_kept 2 yX12_ringLeast cX12_ringLeast 5 (some .int) [.inr (.inr (71, 0)), .inl a1, .inl a2] σ (some (.inl v)) σ' := by
  refine mMet_intro (plainFor_of_name (by decide)) hG (Nat.le_of_ble_eq_true rfl) (fun f hl hR C0 hFin => ?_)
  subst hl
  have hFr := mFr_of hR hFin
  unfold f_X12_ringLeast at h
  show mWW f (mw0 e) sc0 5 (0, [some (.inr (.inr (71, 0))), some (.inl a1), some (.inl a2), none, none], [], σ)
  refine m_blk C0 (pX12_ok rfl) kX12_ringLeast_ok 0 5 (5, [some (.inr (.inr (71, 0))), some (.inl a1), some (.inl a2), some (.inl a2), none], [.inl a2, .inl a1, .inr (.inr (71, 0))], σ) (Ps := []) rfl trivial ?_
  obtain ⟨⟨v1421, s1420⟩, hq1433, h⟩ := g_bind h
  refine c_V (rest := []) C0 hFr (t_X12_to hG f.2.1 N hq1433) lk_X12_162 (k_at kX12_ringLeast_ok 5 rfl) rfl rfl rfl rfl ⟨_, _, rfl⟩ (by decide) (by decide) (Nat.le_of_ble_eq_true rfl) ?_
  refine m_blk C0 (pX12_ok rfl) kX12_ringLeast_ok 6 1 (10, [some (.inr (.inr (71, 0))), some (.inl a1), some (.inl a2), some (.inl a2), some (.inl v1421)], [], s1420) (Ps := []) rfl trivial ?_
  obtain ⟨⟨o1431, s1430⟩, hq1432, h⟩ := g_bind h
  refine m_mask [true, true, true, true, true] (ls' := [some (.inr (.inr (71, 0))), some (.inl a1), some (.inl a2), some (.inl a2), some (.inl v1421)]) rfl ?_
  refine p_X12_ringLeast_10 hG N C0 hFr N _ _ _ _ _ _ _ hq1432 ?_
  refine m_blk C0 (pX12_ok rfl) kX12_ringLeast_ok 23 1 (42, [none, none, none, some (.inl o1431), none], [.inl o1431], s1430) (Ps := []) rfl trivial ?_
  cases h
  exact m_iret C0 hFin (k_at kX12_ringLeast_ok 24 rfl) (Or.inl rfl)
set_option maxRecDepth 100000 in
set_option maxHeartbeats 4000000 in
theorem p_X12_ringSign_27 {e : mEv} (hG : mGeo (mw0 e) lw_kept) (N : Nat) {f : mFx} (C0 : mCx f (mw0 e) sc0 cX12_ringSign 5 RX12 lw_kept) (hFr : mFr f 2) : ∀ (n : Nat) (x1 : Int) (x2 : Int) (x3 : Int) (x4 : Int) (σ : mS) (o3 : Int) (σ' : mS), L_X12_ringSign_27 N n x1 x2 x3 x4 σ = some (o3, σ') → mWW f (mw0 e) sc0 5 (66, [none, none, none, some (.inl o3), none], [], σ') → mWW f (mw0 e) sc0 5 (27, [some (.inr (.inr (71, 0))), some (.inl x1), some (.inl x2), some (.inl x3), some (.inl x4)], [], σ) := by
  intro n
  induction n with
  | zero =>
    intro x1 x2 x3 x4 σ o3 σ' h hK
    cases h
  | succ n IH =>
    intro x1 x2 x3 x4 σ o3 σ' h hK
    rw [L_X12_ringSign_27_s] at h
    refine m_blk C0 (pX12_ok rfl) kX12_ringSign_ok 18 2 (30, [some (.inr (.inr (71, 0))), some (.inl x1), some (.inl x2), some (.inl x3), some (.inl x4)], [.inl x2, .inl x4], σ) (Ps := []) rfl trivial ?_
    refine b_ieq C0 kX12_ringSign_ok 20 (off := 36) (tgt := 66) rfl (by decide) (fun hb1445 => ?_) (fun hb1445 => ?_)
    · replace h := g_pos hb1445 h
      cases h
      refine m_mask [false, false, false, true, false] (ls' := [none, none, none, some (.inl x3), none]) rfl ?_
      exact hK
    · replace h := g_neg hb1445 h
      obtain ⟨hc, h⟩ := g_if h
      refine m_blk C0 (pX12_ok rfl) kX12_ringSign_ok 21 8 (44, [some (.inr (.inr (71, 0))), some (.inl x1), some (.inl x2), some (.inl x3), some (.inl x4)], [.inl (σ 74 0 ((mw ((mw ((3 : Int) * x1)) + x4)).toNat))], σ) (Ps := [0 ≤ (mw ((mw ((3 : Int) * x1)) + x4)) ∧ (mw ((mw ((3 : Int) * x1)) + x4)) < 144]) rfl (And.intro hc trivial) ?_
      refine b_ge C0 kX12_ringSign_ok 29 (off := 8) (tgt := 52) rfl (by decide) (fun hb1444 => ?_) (fun hb1444 => ?_)
      · replace h := g_pos hb1444 h
        refine m_blk C0 (pX12_ok rfl) kX12_ringSign_ok 33 5 (58, [some (.inr (.inr (71, 0))), some (.inl x1), some (.inl x2), some (.inl x3), some (.inl x4)], [.inl x4, .inl x1, .inr (.inr (71, 0))], σ) (Ps := []) rfl trivial ?_
        obtain ⟨⟨v1439, s1438⟩, hq1440, h⟩ := g_bind h
        refine c_V (rest := []) C0 hFr (t_X12_to hG f.2.1 N hq1440) lk_X12_162 (k_at kX12_ringSign_ok 38 rfl) rfl rfl rfl rfl ⟨_, _, rfl⟩ (by decide) (by decide) (Nat.le_of_ble_eq_true rfl) ?_
        refine m_blk C0 (pX12_ok rfl) kX12_ringSign_ok 39 2 (27, [some (.inr (.inr (71, 0))), some (.inl x1), some (.inl x2), some (.inl x3), some (.inl v1439)], [], s1438) (Ps := []) rfl trivial ?_
        refine m_mask [true, true, true, true, true] (ls' := [some (.inr (.inr (71, 0))), some (.inl x1), some (.inl x2), some (.inl x3), some (.inl v1439)]) rfl ?_
        exact IH _ _ _ _ _ _ _ h hK
      · replace h := g_neg hb1444 h
        refine m_blk C0 (pX12_ok rfl) kX12_ringSign_ok 30 3 (53, [some (.inr (.inr (71, 0))), some (.inl x1), some (.inl x2), some (.inl x3), some (.inl x4)], [.inl (mw (-x3))], σ) (Ps := []) rfl trivial ?_
        refine m_blk C0 (pX12_ok rfl) kX12_ringSign_ok 34 4 (58, [some (.inr (.inr (71, 0))), some (.inl x1), some (.inl x2), some (.inl (mw (-x3))), some (.inl x4)], [.inl x4, .inl x1, .inr (.inr (71, 0))], σ) (Ps := []) rfl trivial ?_
        obtain ⟨⟨v1442, s1441⟩, hq1443, h⟩ := g_bind h
        refine c_V (rest := []) C0 hFr (t_X12_to hG f.2.1 N hq1443) lk_X12_162 (k_at kX12_ringSign_ok 38 rfl) rfl rfl rfl rfl ⟨_, _, rfl⟩ (by decide) (by decide) (Nat.le_of_ble_eq_true rfl) ?_
        refine m_blk C0 (pX12_ok rfl) kX12_ringSign_ok 39 2 (27, [some (.inr (.inr (71, 0))), some (.inl x1), some (.inl x2), some (.inl (mw (-x3))), some (.inl v1442)], [], s1441) (Ps := []) rfl trivial ?_
        refine m_mask [true, true, true, true, true] (ls' := [some (.inr (.inr (71, 0))), some (.inl x1), some (.inl x2), some (.inl (mw (-x3))), some (.inl v1442)]) rfl ?_
        exact IH _ _ _ _ _ _ _ h hK
set_option maxRecDepth 100000 in
set_option maxHeartbeats 4000000 in
theorem t_X12_ringSign {e : mEv} (hG : mGeo (mw0 e) lw_kept) (l : Launch) (N : Nat) {a1 : Int} {a2 : Int} {σ σ' : mS} {v : Int} (h : f_X12_ringSign N a1 a2 σ = some (v, σ')) : mMet l (mw0 e) lw_kept 2 yX12_ringSign cX12_ringSign 5 (some .int) [.inr (.inr (71, 0)), .inl a1, .inl a2] σ (some (.inl v)) σ' := by
  refine mMet_intro (plainFor_of_name (by decide)) hG (Nat.le_of_ble_eq_true rfl) (fun f hl hR C0 hFin => ?_)
  subst hl
  have hFr := mFr_of hR hFin
  unfold f_X12_ringSign at h
  show mWW f (mw0 e) sc0 5 (0, [some (.inr (.inr (71, 0))), some (.inl a1), some (.inl a2), none, none], [], σ)
  obtain ⟨hc, h⟩ := g_if h
  refine m_blk C0 (pX12_ok rfl) kX12_ringSign_ok 0 8 (10, [some (.inr (.inr (71, 0))), some (.inl a1), some (.inl a2), none, none], [.inl (σ 74 0 ((mw ((mw ((3 : Int) * a1)) + a2)).toNat))], σ) (Ps := [0 ≤ (mw ((mw ((3 : Int) * a1)) + a2)) ∧ (mw ((mw ((3 : Int) * a1)) + a2)) < 144]) rfl (And.intro hc trivial) ?_
  refine b_ge C0 kX12_ringSign_ok 8 (off := 7) (tgt := 17) rfl (by decide) (fun hb1456 => ?_) (fun hb1456 => ?_)
  · replace h := g_pos hb1456 h
    refine m_blk C0 (pX12_ok rfl) kX12_ringSign_ok 11 5 (22, [some (.inr (.inr (71, 0))), some (.inl a1), some (.inl a2), some (.inl 1), none], [.inl a2, .inl a1, .inr (.inr (71, 0))], σ) (Ps := []) rfl trivial ?_
    obtain ⟨⟨v1437, s1436⟩, hq1449, h⟩ := g_bind h
    refine c_V (rest := []) C0 hFr (t_X12_to hG f.2.1 N hq1449) lk_X12_162 (k_at kX12_ringSign_ok 16 rfl) rfl rfl rfl rfl ⟨_, _, rfl⟩ (by decide) (by decide) (Nat.le_of_ble_eq_true rfl) ?_
    refine m_blk C0 (pX12_ok rfl) kX12_ringSign_ok 17 1 (27, [some (.inr (.inr (71, 0))), some (.inl a1), some (.inl a2), some (.inl 1), some (.inl v1437)], [], s1436) (Ps := []) rfl trivial ?_
    obtain ⟨⟨o1447, s1446⟩, hq1448, h⟩ := g_bind h
    refine m_mask [true, true, true, true, true] (ls' := [some (.inr (.inr (71, 0))), some (.inl a1), some (.inl a2), some (.inl 1), some (.inl v1437)]) rfl ?_
    refine p_X12_ringSign_27 hG N C0 hFr N _ _ _ _ _ _ _ hq1448 ?_
    refine m_blk C0 (pX12_ok rfl) kX12_ringSign_ok 41 1 (67, [none, none, none, some (.inl o1447), none], [.inl o1447], s1446) (Ps := []) rfl trivial ?_
    cases h
    exact m_iret C0 hFin (k_at kX12_ringSign_ok 42 rfl) (Or.inl rfl)
  · replace h := g_neg hb1456 h
    refine m_blk C0 (pX12_ok rfl) kX12_ringSign_ok 9 2 (18, [some (.inr (.inr (71, 0))), some (.inl a1), some (.inl a2), none, none], [.inl (-1)], σ) (Ps := []) rfl trivial ?_
    refine m_blk C0 (pX12_ok rfl) kX12_ringSign_ok 12 4 (22, [some (.inr (.inr (71, 0))), some (.inl a1), some (.inl a2), some (.inl (-1)), none], [.inl a2, .inl a1, .inr (.inr (71, 0))], σ) (Ps := []) rfl trivial ?_
    obtain ⟨⟨v1451, s1450⟩, hq1455, h⟩ := g_bind h
    refine c_V (rest := []) C0 hFr (t_X12_to hG f.2.1 N hq1455) lk_X12_162 (k_at kX12_ringSign_ok 16 rfl) rfl rfl rfl rfl ⟨_, _, rfl⟩ (by decide) (by decide) (Nat.le_of_ble_eq_true rfl) ?_
    refine m_blk C0 (pX12_ok rfl) kX12_ringSign_ok 17 1 (27, [some (.inr (.inr (71, 0))), some (.inl a1), some (.inl a2), some (.inl (-1)), some (.inl v1451)], [], s1450) (Ps := []) rfl trivial ?_
    obtain ⟨⟨o1453, s1452⟩, hq1454, h⟩ := g_bind h
    refine m_mask [true, true, true, true, true] (ls' := [some (.inr (.inr (71, 0))), some (.inl a1), some (.inl a2), some (.inl (-1)), some (.inl v1451)]) rfl ?_
    refine p_X12_ringSign_27 hG N C0 hFr N _ _ _ _ _ _ _ hq1454 ?_
    refine m_blk C0 (pX12_ok rfl) kX12_ringSign_ok 41 1 (67, [none, none, none, some (.inl o1453), none], [.inl o1453], s1452) (Ps := []) rfl trivial ?_
    cases h
    exact m_iret C0 hFin (k_at kX12_ringSign_ok 42 rfl) (Or.inl rfl)
set_option maxRecDepth 100000 in
set_option maxHeartbeats 4000000 in
theorem p_X12_still_4 {e : mEv} (hG : mGeo (mw0 e) lw_kept) (N : Nat) {f : mFx} (C0 : mCx f (mw0 e) sc0 cX12_still 4 RX12 lw_kept) (hFr : mFr f 3) : ∀ (n : Nat) (x1 : Int) (x2 : Int) (x3 : Int) (σ : mS) (o2 : Int) (σ' : mS), L_X12_still_4 N n x1 x2 x3 σ = some (o2, σ') → mWW f (mw0 e) sc0 4 (43, [none, none, some (.inl o2), none], [], σ') → mWW f (mw0 e) sc0 4 (4, [some (.inr (.inr (71, 0))), some (.inl x1), some (.inl x2), some (.inl x3)], [], σ) := by
  intro n
  induction n with
  | zero =>
    intro x1 x2 x3 σ o2 σ' h hK
    cases h
  | succ n IH =>
    intro x1 x2 x3 σ o2 σ' h hK
    rw [L_X12_still_4_s] at h
    refine m_blk C0 (pX12_ok rfl) kX12_still_ok 4 2 (6, [some (.inr (.inr (71, 0))), some (.inl x1), some (.inl x2), some (.inl x3)], [.inl 3, .inl x3], σ) (Ps := []) rfl trivial ?_
    refine b_ige C0 kX12_still_ok 6 (off := 37) (tgt := 43) rfl (by decide) (fun hb1463 => ?_) (fun hb1463 => ?_)
    · replace h := g_pos hb1463 h
      cases h
      refine m_mask [false, false, true, false] (ls' := [none, none, some (.inl x2), none]) rfl ?_
      exact hK
    · replace h := g_neg hb1463 h
      refine m_blk C0 (pX12_ok rfl) kX12_still_ok 7 4 (13, [some (.inr (.inr (71, 0))), some (.inl x1), some (.inl x2), some (.inl x3)], [.inl x3, .inl x1, .inr (.inr (71, 0)), .inl x2], σ) (Ps := []) rfl trivial ?_
      obtain ⟨⟨v1435, s1434⟩, hq1462, h⟩ := g_bind h
      refine c_V (rest := [.inl x2]) C0 hFr (t_X12_ringLeast hG f.2.1 N hq1462) lk_X12_156 (k_at kX12_still_ok 11 rfl) rfl rfl rfl rfl ⟨_, _, rfl⟩ (by decide) (by decide) (Nat.le_of_ble_eq_true rfl) ?_
      refine m_blk C0 (pX12_ok rfl) kX12_still_ok 12 1 (17, [some (.inr (.inr (71, 0))), some (.inl x1), some (.inl x2), some (.inl x3)], [.inl x3, .inl v1435, .inl x2], s1434) (Ps := []) rfl trivial ?_
      refine b_ine C0 kX12_still_ok 13 (off := 17) (tgt := 34) rfl (by decide) (fun hb1461 => ?_) (fun hb1461 => ?_)
      · replace h := g_neg hb1461 h
        refine m_blk C0 (pX12_ok rfl) kX12_still_ok 22 5 (4, [some (.inr (.inr (71, 0))), some (.inl x1), some (.inl (mw (x2 + 0))), some (.inl (mw (x3 + 1)))], [], s1434) (Ps := []) rfl trivial ?_
        refine m_mask [true, true, true, true] (ls' := [some (.inr (.inr (71, 0))), some (.inl x1), some (.inl (mw (x2 + 0))), some (.inl (mw (x3 + 1)))]) rfl ?_
        exact IH _ _ _ _ _ _ h hK
      · replace h := g_pos hb1461 h
        refine m_blk C0 (pX12_ok rfl) kX12_still_ok 14 3 (23, [some (.inr (.inr (71, 0))), some (.inl x1), some (.inl x2), some (.inl x3)], [.inl x3, .inl x1, .inr (.inr (71, 0)), .inl x2], s1434) (Ps := []) rfl trivial ?_
        obtain ⟨⟨v1458, s1457⟩, hq1460, h⟩ := g_bind h
        refine c_V (rest := [.inl x2]) C0 hFr (t_X12_ringSign hG f.2.1 N hq1460) lk_X12_159 (k_at kX12_still_ok 17 rfl) rfl rfl rfl rfl ⟨_, _, rfl⟩ (by decide) (by decide) (Nat.le_of_ble_eq_true rfl) ?_
        refine m_blk C0 (pX12_ok rfl) kX12_still_ok 18 1 (27, [some (.inr (.inr (71, 0))), some (.inl x1), some (.inl x2), some (.inl x3)], [.inl 1, .inl v1458, .inl x2], s1457) (Ps := []) rfl trivial ?_
        refine b_ine C0 kX12_still_ok 19 (off := 7) (tgt := 34) rfl (by decide) (fun hb1459 => ?_) (fun hb1459 => ?_)
        · replace h := g_neg hb1459 h
          refine m_blk C0 (pX12_ok rfl) kX12_still_ok 22 5 (4, [some (.inr (.inr (71, 0))), some (.inl x1), some (.inl (mw (x2 + 0))), some (.inl (mw (x3 + 1)))], [], s1457) (Ps := []) rfl trivial ?_
          refine m_mask [true, true, true, true] (ls' := [some (.inr (.inr (71, 0))), some (.inl x1), some (.inl (mw (x2 + 0))), some (.inl (mw (x3 + 1)))]) rfl ?_
          exact IH _ _ _ _ _ _ h hK
        · replace h := g_pos hb1459 h
          refine m_blk C0 (pX12_ok rfl) kX12_still_ok 20 2 (35, [some (.inr (.inr (71, 0))), some (.inl x1), some (.inl x2), some (.inl x3)], [.inl 1, .inl x2], s1457) (Ps := []) rfl trivial ?_
          refine m_blk C0 (pX12_ok rfl) kX12_still_ok 23 4 (4, [some (.inr (.inr (71, 0))), some (.inl x1), some (.inl (mw (x2 + 1))), some (.inl (mw (x3 + 1)))], [], s1457) (Ps := []) rfl trivial ?_
          refine m_mask [true, true, true, true] (ls' := [some (.inr (.inr (71, 0))), some (.inl x1), some (.inl (mw (x2 + 1))), some (.inl (mw (x3 + 1)))]) rfl ?_
          exact IH _ _ _ _ _ _ h hK
set_option maxRecDepth 100000 in
set_option maxHeartbeats 4000000 in
theorem t_X12_still {e : mEv} (hG : mGeo (mw0 e) lw_kept) (l : Launch) (N : Nat) {a1 : Int} {σ σ' : mS} {v : Int} (h : f_X12_still N a1 σ = some (v, σ')) : mMet l (mw0 e) lw_kept 3 yX12_still cX12_still 4 (some .int) [.inr (.inr (71, 0)), .inl a1] σ (some (.inl v)) σ' := by
  refine mMet_intro (plainFor_of_name (by decide)) hG (Nat.le_of_ble_eq_true rfl) (fun f hl hR C0 hFin => ?_)
  subst hl
  have hFr := mFr_of hR hFin
  unfold f_X12_still at h
  show mWW f (mw0 e) sc0 4 (0, [some (.inr (.inr (71, 0))), some (.inl a1), none, none], [], σ)
  refine m_blk C0 (pX12_ok rfl) kX12_still_ok 0 4 (4, [some (.inr (.inr (71, 0))), some (.inl a1), some (.inl 0), some (.inl 0)], [], σ) (Ps := []) rfl trivial ?_
  obtain ⟨⟨o1465, s1464⟩, hq1466, h⟩ := g_bind h
  refine m_mask [true, true, true, true] (ls' := [some (.inr (.inr (71, 0))), some (.inl a1), some (.inl 0), some (.inl 0)]) rfl ?_
  refine p_X12_still_4 hG N C0 hFr N _ _ _ _ _ _ hq1466 ?_
  refine m_blk C0 (pX12_ok rfl) kX12_still_ok 27 1 (44, [none, none, some (.inl o1465), none], [.inl o1465], s1464) (Ps := []) rfl trivial ?_
  cases h
  exact m_iret C0 hFin (k_at kX12_still_ok 28 rfl) (Or.inl rfl)
set_option maxRecDepth 100000 in
set_option maxHeartbeats 4000000 in
theorem t_X12_isMirror {e : mEv} (hG : mGeo (mw0 e) lw_kept) (l : Launch) (N : Nat) {a1 : Int} {σ σ' : mS} {v : Int} (h : f_X12_isMirror N a1 σ = some (v, σ')) : mMet l (mw0 e) lw_kept 4 yX12_isMirror cX12_isMirror 2 (some .boolean) [.inr (.inr (71, 0)), .inl a1] σ (some (.inl v)) σ' := by
  refine mMet_intro (plainFor_of_name (by decide)) hG (Nat.le_of_ble_eq_true rfl) (fun f hl hR C0 hFin => ?_)
  subst hl
  have hFr := mFr_of hR hFin
  unfold f_X12_isMirror at h
  show mWW f (mw0 e) sc0 2 (0, [some (.inr (.inr (71, 0))), some (.inl a1)], [], σ)
  refine m_blk C0 (pX12_ok rfl) kX12_isMirror_ok 0 1 (1, [some (.inr (.inr (71, 0))), some (.inl a1)], [.inl a1], σ) (Ps := []) rfl trivial ?_
  refine b_eq C0 kX12_isMirror_ok 1 (off := 16) (tgt := 17) rfl (by decide) (fun hb1471 => ?_) (fun hb1471 => ?_)
  · replace h := g_pos hb1471 h
    refine m_blk C0 (pX12_ok rfl) kX12_isMirror_ok 9 1 (18, [some (.inr (.inr (71, 0))), some (.inl a1)], [.inl 0], σ) (Ps := []) rfl trivial ?_
    cases h
    exact m_iret C0 hFin (k_at kX12_isMirror_ok 10 rfl) (Or.inr ⟨rfl, by decide⟩)
  · replace h := g_neg hb1471 h
    refine m_blk C0 (pX12_ok rfl) kX12_isMirror_ok 2 2 (6, [some (.inr (.inr (71, 0))), some (.inl a1)], [.inl a1, .inr (.inr (71, 0))], σ) (Ps := []) rfl trivial ?_
    obtain ⟨⟨v1468, s1467⟩, hq1470, h⟩ := g_bind h
    refine c_V (rest := []) C0 hFr (t_X12_still hG f.2.1 N hq1470) lk_X12_165 (k_at kX12_isMirror_ok 4 rfl) rfl rfl rfl rfl ⟨_, _, rfl⟩ (by decide) (by decide) (Nat.le_of_ble_eq_true rfl) ?_
    refine m_blk C0 (pX12_ok rfl) kX12_isMirror_ok 5 1 (10, [some (.inr (.inr (71, 0))), some (.inl a1)], [.inl 2, .inl v1468], s1467) (Ps := []) rfl trivial ?_
    refine b_ine C0 kX12_isMirror_ok 6 (off := 7) (tgt := 17) rfl (by decide) (fun hb1469 => ?_) (fun hb1469 => ?_)
    · replace h := g_neg hb1469 h
      refine m_blk C0 (pX12_ok rfl) kX12_isMirror_ok 9 1 (18, [some (.inr (.inr (71, 0))), some (.inl a1)], [.inl 0], s1467) (Ps := []) rfl trivial ?_
      cases h
      exact m_iret C0 hFin (k_at kX12_isMirror_ok 10 rfl) (Or.inr ⟨rfl, by decide⟩)
    · replace h := g_pos hb1469 h
      refine m_blk C0 (pX12_ok rfl) kX12_isMirror_ok 7 2 (18, [some (.inr (.inr (71, 0))), some (.inl a1)], [.inl 1], s1467) (Ps := []) rfl trivial ?_
      cases h
      exact m_iret C0 hFin (k_at kX12_isMirror_ok 10 rfl) (Or.inr ⟨rfl, by decide⟩)
set_option maxRecDepth 100000 in
set_option maxHeartbeats 4000000 in
theorem p_X12_byMirrors_2 {e : mEv} (hG : mGeo (mw0 e) lw_kept) (N : Nat) {f : mFx} (C0 : mCx f (mw0 e) sc0 cX12_byMirrors 4 RX12 lw_kept) (hFr : mFr f 5) : ∀ (n : Nat) (x1 : Int) (σ : mS) (σ' : mS), L_X12_byMirrors_2 N n x1 σ = some σ' → mWW f (mw0 e) sc0 4 (31, [some (.inr (.inr (71, 0))), none, none, none], [], σ') → mWW f (mw0 e) sc0 4 (2, [some (.inr (.inr (71, 0))), some (.inl x1), none, none], [], σ) := by
  intro n
  induction n with
  | zero =>
    intro x1 σ σ' h hK
    cases h
  | succ n IH =>
    intro x1 σ σ' h hK
    rw [L_X12_byMirrors_2_s] at h
    refine m_blk C0 (pX12_ok rfl) kX12_byMirrors_ok 2 3 (7, [some (.inr (.inr (71, 0))), some (.inl x1), none, none], [.inl (σ 71 0 6), .inl x1], σ) (Ps := []) rfl trivial ?_
    refine b_ige C0 kX12_byMirrors_ok 5 (off := 24) (tgt := 31) rfl (by decide) (fun hb1481 => ?_) (fun hb1481 => ?_)
    · replace h := g_pos hb1481 h
      cases h
      refine m_mask [true, false, false, false] (ls' := [some (.inr (.inr (71, 0))), none, none, none]) rfl ?_
      exact hK
    · replace h := g_neg hb1481 h
      refine m_blk C0 (pX12_ok rfl) kX12_byMirrors_ok 6 4 (16, [some (.inr (.inr (71, 0))), some (.inl x1), none, none], [.inl x1, .inl x1, .inr (.inr (80, 0))], σ) (Ps := []) rfl trivial ?_
      refine b_ne C0 kX12_byMirrors_ok 10 (off := 7) (tgt := 23) rfl (by decide) (fun hb1480 => ?_) (fun hb1480 => ?_)
      · replace h := g_neg hb1480 h
        obtain ⟨hc, h⟩ := g_if h
        refine m_blk C0 (pX12_ok rfl) kX12_byMirrors_ok 13 2 (25, [some (.inr (.inr (71, 0))), some (.inl x1), none, none], [], (mup σ 80 0 x1.toNat 0)) (Ps := [0 ≤ x1 ∧ x1 < 48, (0 : Int) = 0 ∨ (0 : Int) = 1]) rfl (And.intro hc (And.intro (by decide) trivial)) ?_
        refine m_blk C0 (pX12_ok rfl) kX12_byMirrors_ok 15 2 (2, [some (.inr (.inr (71, 0))), some (.inl (mw (x1 + 1))), none, none], [], (mup σ 80 0 x1.toNat 0)) (Ps := []) rfl trivial ?_
        refine m_mask [true, true, false, false] (ls' := [some (.inr (.inr (71, 0))), some (.inl (mw (x1 + 1))), none, none]) rfl ?_
        exact IH _ _ _ h hK
      · replace h := g_pos hb1480 h
        refine m_blk C0 (pX12_ok rfl) kX12_byMirrors_ok 11 2 (24, [some (.inr (.inr (71, 0))), some (.inl x1), none, none], [.inl 1, .inl x1, .inr (.inr (80, 0))], σ) (Ps := []) rfl trivial ?_
        obtain ⟨hc, h⟩ := g_if h
        refine m_blk C0 (pX12_ok rfl) kX12_byMirrors_ok 14 1 (25, [some (.inr (.inr (71, 0))), some (.inl x1), none, none], [], (mup σ 80 0 x1.toNat 1)) (Ps := [0 ≤ x1 ∧ x1 < 48, (1 : Int) = 0 ∨ (1 : Int) = 1]) rfl (And.intro hc (And.intro (by decide) trivial)) ?_
        refine m_blk C0 (pX12_ok rfl) kX12_byMirrors_ok 15 2 (2, [some (.inr (.inr (71, 0))), some (.inl (mw (x1 + 1))), none, none], [], (mup σ 80 0 x1.toNat 1)) (Ps := []) rfl trivial ?_
        refine m_mask [true, true, false, false] (ls' := [some (.inr (.inr (71, 0))), some (.inl (mw (x1 + 1))), none, none]) rfl ?_
        exact IH _ _ _ h hK
set_option maxRecDepth 100000 in
set_option maxHeartbeats 4000000 in
theorem p_X12_byMirrors_51 {e : mEv} (hG : mGeo (mw0 e) lw_kept) (N : Nat) {f : mFx} (C0 : mCx f (mw0 e) sc0 cX12_byMirrors 4 RX12 lw_kept) (hFr : mFr f 5) : ∀ (n : Nat) (x1 : Int) (x2 : Int) (x3 : Int) (σ : mS) (o1 : Int) (σ' : mS), L_X12_byMirrors_51 N n x1 x2 x3 σ = some (o1, σ') → mWW f (mw0 e) sc0 4 (113, [some (.inr (.inr (71, 0))), some (.inl o1), some (.inl x2), none], [], σ') → mWW f (mw0 e) sc0 4 (51, [some (.inr (.inr (71, 0))), some (.inl x1), some (.inl x2), some (.inl x3)], [], σ) := by
  intro n
  induction n with
  | zero =>
    intro x1 x2 x3 σ o1 σ' h hK
    cases h
  | succ n IH =>
    intro x1 x2 x3 σ o1 σ' h hK
    rw [L_X12_byMirrors_51_s] at h
    refine m_blk C0 (pX12_ok rfl) kX12_byMirrors_ok 31 3 (56, [some (.inr (.inr (71, 0))), some (.inl x1), some (.inl x2), some (.inl x3)], [.inl (σ 71 0 6), .inl x3], σ) (Ps := []) rfl trivial ?_
    refine b_ige C0 kX12_byMirrors_ok 34 (off := 57) (tgt := 113) rfl (by decide) (fun hb1495 => ?_) (fun hb1495 => ?_)
    · replace h := g_pos hb1495 h
      cases h
      refine m_mask [true, true, true, false] (ls' := [some (.inr (.inr (71, 0))), some (.inl x1), some (.inl x2), none]) rfl ?_
      exact hK
    · replace h := g_neg hb1495 h
      obtain ⟨hc, h⟩ := g_if h
      refine m_blk C0 (pX12_ok rfl) kX12_byMirrors_ok 35 4 (65, [some (.inr (.inr (71, 0))), some (.inl x1), some (.inl x2), some (.inl x3)], [.inl (σ 80 0 x2.toNat)], σ) (Ps := [0 ≤ x2 ∧ x2 < 48]) rfl (And.intro hc trivial) ?_
      refine b_eq C0 kX12_byMirrors_ok 39 (off := 48) (tgt := 113) rfl (by decide) (fun hb1494 => ?_) (fun hb1494 => ?_)
      · replace h := g_pos hb1494 h
        cases h
        refine m_mask [true, true, true, false] (ls' := [some (.inr (.inr (71, 0))), some (.inl x1), some (.inl x2), none]) rfl ?_
        exact hK
      · replace h := g_neg hb1494 h
        refine m_blk C0 (pX12_ok rfl) kX12_byMirrors_ok 40 2 (70, [some (.inr (.inr (71, 0))), some (.inl x1), some (.inl x2), some (.inl x3)], [.inl x3, .inr (.inr (71, 0))], σ) (Ps := []) rfl trivial ?_
        obtain ⟨⟨v1484, s1483⟩, hq1493, h⟩ := g_bind h
        refine c_V (rest := []) C0 hFr (t_X12_isMirror hG f.2.1 N hq1493) lk_X12_168 (k_at kX12_byMirrors_ok 42 rfl) rfl rfl rfl rfl ⟨_, _, rfl⟩ (by decide) (by decide) (Nat.le_of_ble_eq_true rfl) ?_
        refine b_eq C0 kX12_byMirrors_ok 43 (off := 34) (tgt := 107) rfl (by decide) (fun hb1492 => ?_) (fun hb1492 => ?_)
        · replace h := g_pos hb1492 h
          refine m_blk C0 (pX12_ok rfl) kX12_byMirrors_ok 63 2 (51, [some (.inr (.inr (71, 0))), some (.inl x1), some (.inl x2), some (.inl (mw (x3 + 1)))], [], s1483) (Ps := []) rfl trivial ?_
          refine m_mask [true, true, true, true] (ls' := [some (.inr (.inr (71, 0))), some (.inl x1), some (.inl x2), some (.inl (mw (x3 + 1)))]) rfl ?_
          exact IH _ _ _ _ _ _ h hK
        · replace h := g_neg hb1492 h
          refine m_blk C0 (pX12_ok rfl) kX12_byMirrors_ok 44 5 (83, [some (.inr (.inr (71, 0))), some (.inl x1), some (.inl x2), some (.inl x3)], [.inl x3, .inl x2, .inr (.inr (71, 0)), .inr (.inr (80, 0))], s1483) (Ps := []) rfl trivial ?_
          obtain ⟨⟨v1486, s1485⟩, hq1491, h⟩ := g_bind h
          refine c_V (rest := [.inr (.inr (80, 0))]) C0 hFr (t_X12_product hG f.2.1 N hq1491) lk_X12_128 (k_at kX12_byMirrors_ok 49 rfl) rfl rfl rfl rfl ⟨_, _, rfl⟩ (by decide) (by decide) (Nat.le_of_ble_eq_true rfl) ?_
          obtain ⟨hc, h⟩ := g_if h
          refine m_blk C0 (pX12_ok rfl) kX12_byMirrors_ok 50 1 (87, [some (.inr (.inr (71, 0))), some (.inl x1), some (.inl x2), some (.inl x3)], [.inl (s1485 80 0 v1486.toNat)], s1485) (Ps := [0 ≤ v1486 ∧ v1486 < 48]) rfl (And.intro hc trivial) ?_
          refine b_eq C0 kX12_byMirrors_ok 51 (off := 6) (tgt := 93) rfl (by decide) (fun hb1490 => ?_) (fun hb1490 => ?_)
          · replace h := g_pos hb1490 h
            refine m_blk C0 (pX12_ok rfl) kX12_byMirrors_ok 53 5 (100, [some (.inr (.inr (71, 0))), some (.inl x1), some (.inl x2), some (.inl x3)], [.inl x3, .inl x2, .inr (.inr (71, 0)), .inr (.inr (80, 0))], s1485) (Ps := []) rfl trivial ?_
            obtain ⟨⟨v1488, s1487⟩, hq1489, h⟩ := g_bind h
            refine c_V (rest := [.inr (.inr (80, 0))]) C0 hFr (t_X12_product hG f.2.1 N hq1489) lk_X12_128 (k_at kX12_byMirrors_ok 58 rfl) rfl rfl rfl rfl ⟨_, _, rfl⟩ (by decide) (by decide) (Nat.le_of_ble_eq_true rfl) ?_
            obtain ⟨hc, h⟩ := g_if h
            refine m_blk C0 (pX12_ok rfl) kX12_byMirrors_ok 59 2 (105, [some (.inr (.inr (71, 0))), some (.inl x1), some (.inl x2), some (.inl x3)], [], (mup s1487 80 0 v1488.toNat 1)) (Ps := [0 ≤ v1488 ∧ v1488 < 48, (1 : Int) = 0 ∨ (1 : Int) = 1]) rfl (And.intro hc (And.intro (by decide) trivial)) ?_
            refine m_blk C0 (pX12_ok rfl) kX12_byMirrors_ok 61 4 (51, [some (.inr (.inr (71, 0))), some (.inl 1), some (.inl x2), some (.inl (mw (x3 + 1)))], [], (mup s1487 80 0 v1488.toNat 1)) (Ps := []) rfl trivial ?_
            refine m_mask [true, true, true, true] (ls' := [some (.inr (.inr (71, 0))), some (.inl 1), some (.inl x2), some (.inl (mw (x3 + 1)))]) rfl ?_
            exact IH _ _ _ _ _ _ h hK
          · replace h := g_neg hb1490 h
            refine m_blk C0 (pX12_ok rfl) kX12_byMirrors_ok 52 1 (107, [some (.inr (.inr (71, 0))), some (.inl x1), some (.inl x2), some (.inl x3)], [], s1485) (Ps := []) rfl trivial ?_
            refine m_blk C0 (pX12_ok rfl) kX12_byMirrors_ok 63 2 (51, [some (.inr (.inr (71, 0))), some (.inl x1), some (.inl x2), some (.inl (mw (x3 + 1)))], [], s1485) (Ps := []) rfl trivial ?_
            refine m_mask [true, true, true, true] (ls' := [some (.inr (.inr (71, 0))), some (.inl x1), some (.inl x2), some (.inl (mw (x3 + 1)))]) rfl ?_
            exact IH _ _ _ _ _ _ h hK
set_option maxRecDepth 100000 in
set_option maxHeartbeats 4000000 in
theorem p_X12_byMirrors_41 {e : mEv} (hG : mGeo (mw0 e) lw_kept) (N : Nat) {f : mFx} (C0 : mCx f (mw0 e) sc0 cX12_byMirrors 4 RX12 lw_kept) (hFr : mFr f 5) : ∀ (n : Nat) (x1 : Int) (x2 : Int) (σ : mS) (o1 : Int) (σ' : mS), L_X12_byMirrors_41 N n x1 x2 σ = some (o1, σ') → mWW f (mw0 e) sc0 4 (119, [some (.inr (.inr (71, 0))), some (.inl o1), none, none], [], σ') → mWW f (mw0 e) sc0 4 (41, [some (.inr (.inr (71, 0))), some (.inl x1), some (.inl x2), none], [], σ) := by
  intro n
  induction n with
  | zero =>
    intro x1 x2 σ o1 σ' h hK
    cases h
  | succ n IH =>
    intro x1 x2 σ o1 σ' h hK
    rw [L_X12_byMirrors_41_s] at h
    refine m_blk C0 (pX12_ok rfl) kX12_byMirrors_ok 25 3 (46, [some (.inr (.inr (71, 0))), some (.inl x1), some (.inl x2), none], [.inl (σ 71 0 6), .inl x2], σ) (Ps := []) rfl trivial ?_
    refine b_ige C0 kX12_byMirrors_ok 28 (off := 73) (tgt := 119) rfl (by decide) (fun hb1499 => ?_) (fun hb1499 => ?_)
    · replace h := g_pos hb1499 h
      cases h
      refine m_mask [true, true, false, false] (ls' := [some (.inr (.inr (71, 0))), some (.inl x1), none, none]) rfl ?_
      exact hK
    · replace h := g_neg hb1499 h
      refine m_blk C0 (pX12_ok rfl) kX12_byMirrors_ok 29 2 (51, [some (.inr (.inr (71, 0))), some (.inl x1), some (.inl x2), some (.inl 0)], [], σ) (Ps := []) rfl trivial ?_
      obtain ⟨⟨o1497, s1496⟩, hq1498, h⟩ := g_bind h
      refine m_mask [true, true, true, true] (ls' := [some (.inr (.inr (71, 0))), some (.inl x1), some (.inl x2), some (.inl 0)]) rfl ?_
      refine p_X12_byMirrors_51 hG N C0 hFr N _ _ _ _ _ _ hq1498 ?_
      refine m_blk C0 (pX12_ok rfl) kX12_byMirrors_ok 65 2 (41, [some (.inr (.inr (71, 0))), some (.inl o1497), some (.inl (mw (x2 + 1))), none], [], s1496) (Ps := []) rfl trivial ?_
      refine m_mask [true, true, true, false] (ls' := [some (.inr (.inr (71, 0))), some (.inl o1497), some (.inl (mw (x2 + 1))), none]) rfl ?_
      exact IH _ _ _ _ _ h hK
set_option maxRecDepth 100000 in
set_option maxHeartbeats 4000000 in
theorem p_X12_byMirrors_33 {e : mEv} (hG : mGeo (mw0 e) lw_kept) (N : Nat) {f : mFx} (C0 : mCx f (mw0 e) sc0 cX12_byMirrors 4 RX12 lw_kept) (hFr : mFr f 5) : ∀ (n : Nat) (x1 : Int) (σ : mS) (σ' : mS), L_X12_byMirrors_33 N n x1 σ = some σ' → mWW f (mw0 e) sc0 4 (122, [some (.inr (.inr (71, 0))), none, none, none], [], σ') → mWW f (mw0 e) sc0 4 (33, [some (.inr (.inr (71, 0))), some (.inl x1), none, none], [], σ) := by
  intro n
  induction n with
  | zero =>
    intro x1 σ σ' h hK
    cases h
  | succ n IH =>
    intro x1 σ σ' h hK
    rw [L_X12_byMirrors_33_s] at h
    refine m_blk C0 (pX12_ok rfl) kX12_byMirrors_ok 19 1 (34, [some (.inr (.inr (71, 0))), some (.inl x1), none, none], [.inl x1], σ) (Ps := []) rfl trivial ?_
    refine b_eq C0 kX12_byMirrors_ok 20 (off := 88) (tgt := 122) rfl (by decide) (fun hb1503 => ?_) (fun hb1503 => ?_)
    · replace h := g_pos hb1503 h
      cases h
      refine m_mask [true, false, false, false] (ls' := [some (.inr (.inr (71, 0))), none, none, none]) rfl ?_
      exact hK
    · replace h := g_neg hb1503 h
      refine m_blk C0 (pX12_ok rfl) kX12_byMirrors_ok 21 4 (41, [some (.inr (.inr (71, 0))), some (.inl 0), some (.inl 0), none], [], σ) (Ps := []) rfl trivial ?_
      obtain ⟨⟨o1501, s1500⟩, hq1502, h⟩ := g_bind h
      refine m_mask [true, true, true, false] (ls' := [some (.inr (.inr (71, 0))), some (.inl 0), some (.inl 0), none]) rfl ?_
      refine p_X12_byMirrors_41 hG N C0 hFr N _ _ _ _ _ hq1502 ?_
      refine m_blk C0 (pX12_ok rfl) kX12_byMirrors_ok 67 1 (33, [some (.inr (.inr (71, 0))), some (.inl o1501), none, none], [], s1500) (Ps := []) rfl trivial ?_
      refine m_mask [true, true, false, false] (ls' := [some (.inr (.inr (71, 0))), some (.inl o1501), none, none]) rfl ?_
      exact IH _ _ _ h hK
set_option maxRecDepth 100000 in
set_option maxHeartbeats 4000000 in
theorem p_X12_byMirrors_126 {e : mEv} (hG : mGeo (mw0 e) lw_kept) (N : Nat) {f : mFx} (C0 : mCx f (mw0 e) sc0 cX12_byMirrors 4 RX12 lw_kept) (hFr : mFr f 5) : ∀ (n : Nat) (x2 : Int) (x3 : Int) (σ : mS) (o2 : Int) (σ' : mS), L_X12_byMirrors_126 N n x2 x3 σ = some (o2, σ') → mWW f (mw0 e) sc0 4 (159, [none, none, some (.inl o2), none], [], σ') → mWW f (mw0 e) sc0 4 (126, [some (.inr (.inr (71, 0))), none, some (.inl x2), some (.inl x3)], [], σ) := by
  intro n
  induction n with
  | zero =>
    intro x2 x3 σ o2 σ' h hK
    cases h
  | succ n IH =>
    intro x2 x3 σ o2 σ' h hK
    rw [L_X12_byMirrors_126_s] at h
    refine m_blk C0 (pX12_ok rfl) kX12_byMirrors_ok 72 3 (131, [some (.inr (.inr (71, 0))), none, some (.inl x2), some (.inl x3)], [.inl (σ 71 0 6), .inl x3], σ) (Ps := []) rfl trivial ?_
    refine b_ige C0 kX12_byMirrors_ok 75 (off := 28) (tgt := 159) rfl (by decide) (fun hb1507 => ?_) (fun hb1507 => ?_)
    · replace h := g_pos hb1507 h
      cases h
      refine m_mask [false, false, true, false] (ls' := [none, none, some (.inl x2), none]) rfl ?_
      exact hK
    · replace h := g_neg hb1507 h
      refine m_blk C0 (pX12_ok rfl) kX12_byMirrors_ok 76 1 (135, [some (.inr (.inr (71, 0))), none, some (.inl x2), some (.inl x3)], [.inl x2], σ) (Ps := []) rfl trivial ?_
      refine b_eq C0 kX12_byMirrors_ok 77 (off := 16) (tgt := 151) rfl (by decide) (fun hb1506 => ?_) (fun hb1506 => ?_)
      · replace h := g_pos hb1506 h
        refine m_blk C0 (pX12_ok rfl) kX12_byMirrors_ok 85 4 (126, [some (.inr (.inr (71, 0))), none, some (.inl 0), some (.inl (mw (x3 + 1)))], [], σ) (Ps := []) rfl trivial ?_
        refine m_mask [true, false, true, true] (ls' := [some (.inr (.inr (71, 0))), none, some (.inl 0), some (.inl (mw (x3 + 1)))]) rfl ?_
        exact IH _ _ _ _ _ h hK
      · replace h := g_neg hb1506 h
        obtain ⟨hc, h⟩ := g_if h
        refine m_blk C0 (pX12_ok rfl) kX12_byMirrors_ok 78 4 (144, [some (.inr (.inr (71, 0))), none, some (.inl x2), some (.inl x3)], [.inl (σ 80 0 x3.toNat)], σ) (Ps := [0 ≤ x3 ∧ x3 < 48]) rfl (And.intro hc trivial) ?_
        refine b_eq C0 kX12_byMirrors_ok 82 (off := 7) (tgt := 151) rfl (by decide) (fun hb1505 => ?_) (fun hb1505 => ?_)
        · replace h := g_pos hb1505 h
          refine m_blk C0 (pX12_ok rfl) kX12_byMirrors_ok 85 4 (126, [some (.inr (.inr (71, 0))), none, some (.inl 0), some (.inl (mw (x3 + 1)))], [], σ) (Ps := []) rfl trivial ?_
          refine m_mask [true, false, true, true] (ls' := [some (.inr (.inr (71, 0))), none, some (.inl 0), some (.inl (mw (x3 + 1)))]) rfl ?_
          exact IH _ _ _ _ _ h hK
        · replace h := g_neg hb1505 h
          refine m_blk C0 (pX12_ok rfl) kX12_byMirrors_ok 83 2 (152, [some (.inr (.inr (71, 0))), none, some (.inl x2), some (.inl x3)], [.inl 1], σ) (Ps := []) rfl trivial ?_
          refine m_blk C0 (pX12_ok rfl) kX12_byMirrors_ok 86 3 (126, [some (.inr (.inr (71, 0))), none, some (.inl 1), some (.inl (mw (x3 + 1)))], [], σ) (Ps := []) rfl trivial ?_
          refine m_mask [true, false, true, true] (ls' := [some (.inr (.inr (71, 0))), none, some (.inl 1), some (.inl (mw (x3 + 1)))]) rfl ?_
          exact IH _ _ _ _ _ h hK
set_option maxRecDepth 100000 in
set_option maxHeartbeats 4000000 in
theorem t_X12_byMirrors {e : mEv} (hG : mGeo (mw0 e) lw_kept) (l : Launch) (N : Nat) {σ σ' : mS} {v : Int} (h : f_X12_byMirrors N σ = some (v, σ')) : mMet l (mw0 e) lw_kept 5 yX12_byMirrors cX12_byMirrors 4 (some .boolean) [.inr (.inr (71, 0))] σ (some (.inl v)) σ' := by
  refine mMet_intro (plainFor_of_name (by decide)) hG (Nat.le_of_ble_eq_true rfl) (fun f hl hR C0 hFin => ?_)
  subst hl
  have hFr := mFr_of hR hFin
  unfold f_X12_byMirrors at h
  show mWW f (mw0 e) sc0 4 (0, [some (.inr (.inr (71, 0))), none, none, none], [], σ)
  refine m_blk C0 (pX12_ok rfl) kX12_byMirrors_ok 0 2 (2, [some (.inr (.inr (71, 0))), some (.inl 0), none, none], [], σ) (Ps := []) rfl trivial ?_
  obtain ⟨s1482, hq1512, h⟩ := g_bind h
  refine m_mask [true, true, false, false] (ls' := [some (.inr (.inr (71, 0))), some (.inl 0), none, none]) rfl ?_
  refine p_X12_byMirrors_2 hG N C0 hFr N _ _ _ hq1512 ?_
  refine m_blk C0 (pX12_ok rfl) kX12_byMirrors_ok 17 2 (33, [some (.inr (.inr (71, 0))), some (.inl 1), none, none], [], s1482) (Ps := []) rfl trivial ?_
  obtain ⟨s1504, hq1511, h⟩ := g_bind h
  refine m_mask [true, true, false, false] (ls' := [some (.inr (.inr (71, 0))), some (.inl 1), none, none]) rfl ?_
  refine p_X12_byMirrors_33 hG N C0 hFr N _ _ _ hq1511 ?_
  refine m_blk C0 (pX12_ok rfl) kX12_byMirrors_ok 68 4 (126, [some (.inr (.inr (71, 0))), none, some (.inl 1), some (.inl 0)], [], s1504) (Ps := []) rfl trivial ?_
  obtain ⟨⟨o1509, s1508⟩, hq1510, h⟩ := g_bind h
  refine m_mask [true, false, true, true] (ls' := [some (.inr (.inr (71, 0))), none, some (.inl 1), some (.inl 0)]) rfl ?_
  refine p_X12_byMirrors_126 hG N C0 hFr N _ _ _ _ _ hq1510 ?_
  refine m_blk C0 (pX12_ok rfl) kX12_byMirrors_ok 89 1 (160, [none, none, some (.inl o1509), none], [.inl o1509], s1508) (Ps := []) rfl trivial ?_
  obtain ⟨hz, h⟩ := g_if h
  cases h
  exact m_iret C0 hFin (k_at kX12_byMirrors_ok 90 rfl) (Or.inr ⟨rfl, hz⟩)
