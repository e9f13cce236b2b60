set_option maxRecDepth 100000 in
set_option maxHeartbeats 4000000 in
theorem t_X12_mean {e : mEv} (hG : mGeo (mw0 e) lw_kept) (l : Launch) (N : Nat) {a1 : Int} {a2 : Int} {a3 : Int} {σ σ' : mS} {v : Int} (h : f_X12_mean N a1 a2 a3 σ = some (v, σ')) : mMet l (mw0 e) lw_kept 4 yX12_mean cX12_mean 4 (some .int) [.inr (.inr (71, 0)), .inl a1, .inl a2, .inl a3] σ (some (.inl v)) σ' := by
  refine mMet_intro (plainFor_of_name (by decide)) hG (Nat.le_of_ble_eq_true rfl) (fun f hl hR C0 hFin => ?_)
  subst hl
  have hFr := mFr_of hR hFin
  unfold f_X12_mean at h
  show mWW f (mw0 e) sc0 4 (0, [some (.inr (.inr (71, 0))), some (.inl a1), some (.inl a2), some (.inl a3)], [], σ)
  refine m_blk C0 (pX12_ok rfl) kX12_mean_ok 0 1 (1, [some (.inr (.inr (71, 0))), some (.inl a1), some (.inl a2), some (.inl a3)], [.inl a1], σ) (Ps := []) rfl trivial ?_
  obtain ⟨⟨v1766, s1765⟩, hq1799, h⟩ := g_bind h
  refine c_S (rest := []) C0 hFr (t_X12_isPoly hG f.2.1 N hq1799) lk_X12_184 (k_at kX12_mean_ok 1 rfl) rfl rfl rfl (by decide) (by decide) (Nat.le_of_ble_eq_true rfl) ?_
  refine b_eq C0 kX12_mean_ok 2 (off := 18) (tgt := 22) rfl (by decide) (fun hb1798 => ?_) (fun hb1798 => ?_)
  · replace h := g_pos hb1798 h
    refine m_blk C0 (pX12_ok rfl) kX12_mean_ok 10 1 (24, [some (.inr (.inr (71, 0))), some (.inl a1), some (.inl a2), some (.inl a3)], [.inl (-2)], s1765) (Ps := []) rfl trivial ?_
    cases h
    exact m_iret C0 hFin (k_at kX12_mean_ok 11 rfl) (Or.inl rfl)
  · replace h := g_neg hb1798 h
    refine m_blk C0 (pX12_ok rfl) kX12_mean_ok 3 1 (8, [some (.inr (.inr (71, 0))), some (.inl a1), some (.inl a2), some (.inl a3)], [.inl a2], s1765) (Ps := []) rfl trivial ?_
    obtain ⟨⟨v1768, s1767⟩, hq1797, h⟩ := g_bind h
    refine c_S (rest := []) C0 hFr (t_X12_isPoly hG f.2.1 N hq1797) lk_X12_184 (k_at kX12_mean_ok 4 rfl) rfl rfl rfl (by decide) (by decide) (Nat.le_of_ble_eq_true rfl) ?_
    refine b_eq C0 kX12_mean_ok 5 (off := 11) (tgt := 22) rfl (by decide) (fun hb1796 => ?_) (fun hb1796 => ?_)
    · replace h := g_pos hb1796 h
      refine m_blk C0 (pX12_ok rfl) kX12_mean_ok 10 1 (24, [some (.inr (.inr (71, 0))), some (.inl a1), some (.inl a2), some (.inl a3)], [.inl (-2)], s1767) (Ps := []) rfl trivial ?_
      cases h
      exact m_iret C0 hFin (k_at kX12_mean_ok 11 rfl) (Or.inl rfl)
    · replace h := g_neg hb1796 h
      refine m_blk C0 (pX12_ok rfl) kX12_mean_ok 6 2 (16, [some (.inr (.inr (71, 0))), some (.inl a1), some (.inl a2), some (.inl a3)], [.inl a3, .inr (.inr (71, 0))], s1767) (Ps := []) rfl trivial ?_
      obtain ⟨⟨v1770, s1769⟩, hq1795, h⟩ := g_bind h
      refine c_V (rest := []) C0 hFr (t_X12_isSign hG f.2.1 N hq1795) lk_X12_153 (k_at kX12_mean_ok 8 rfl) rfl rfl rfl rfl ⟨_, _, rfl⟩ (by decide) (by decide) (Nat.le_of_ble_eq_true rfl) ?_
      refine b_ne C0 kX12_mean_ok 9 (off := 6) (tgt := 25) rfl (by decide) (fun hb1794 => ?_) (fun hb1794 => ?_)
      · replace h := g_neg hb1794 h
        refine m_blk C0 (pX12_ok rfl) kX12_mean_ok 12 4 (30, [some (.inr (.inr (71, 0))), some (.inl a1), some (.inl a2), some (.inl a3)], [.inl a3, .inl a2, .inl 8, .inr (.inr (71, 0))], s1769) (Ps := []) rfl trivial ?_
        obtain ⟨s1787, hq1793, h⟩ := g_bind h
        refine c_V (rest := []) C0 hFr (t_X12_mean0 hG f.2.1 N hq1793) lk_X12_234 (k_at kX12_mean_ok 16 rfl) rfl rfl rfl rfl ⟨_, _, rfl⟩ (by decide) (by decide) (Nat.le_of_ble_eq_true rfl) ?_
        refine m_blk C0 (pX12_ok rfl) kX12_mean_ok 17 3 (37, [some (.inr (.inr (71, 0))), some (.inl a1), some (.inl a2), some (.inl a3)], [.inl a1, .inl 8, .inr (.inr (71, 0))], s1787) (Ps := []) rfl trivial ?_
        obtain ⟨s1788, hq1792, h⟩ := g_bind h
        refine c_V (rest := []) C0 hFr (t_X12_copy hG f.2.1 N hq1792) lk_X12_208 (k_at kX12_mean_ok 20 rfl) rfl rfl rfl rfl ⟨_, _, rfl⟩ (by decide) (by decide) (Nat.le_of_ble_eq_true rfl) ?_
        refine m_blk C0 (pX12_ok rfl) kX12_mean_ok 21 2 (42, [some (.inr (.inr (71, 0))), some (.inl a1), some (.inl a2), some (.inl a3)], [.inl a1, .inr (.inr (71, 0))], s1788) (Ps := []) rfl trivial ?_
        obtain ⟨⟨v1790, s1789⟩, hq1791, h⟩ := g_bind h
        refine c_V (rest := []) C0 hFr (t_X12_degree0 hG f.2.1 N hq1791) lk_X12_197 (k_at kX12_mean_ok 23 rfl) rfl rfl rfl rfl ⟨_, _, rfl⟩ (by decide) (by decide) (Nat.le_of_ble_eq_true rfl) ?_
        cases h
        exact m_iret C0 hFin (k_at kX12_mean_ok 24 rfl) (Or.inl rfl)
      · replace h := g_pos hb1794 h
        refine m_blk C0 (pX12_ok rfl) kX12_mean_ok 10 1 (24, [some (.inr (.inr (71, 0))), some (.inl a1), some (.inl a2), some (.inl a3)], [.inl (-2)], s1769) (Ps := []) rfl trivial ?_
        cases h
        exact m_iret C0 hFin (k_at kX12_mean_ok 11 rfl) (Or.inl rfl)
set_option maxRecDepth 100000 in
set_option maxHeartbeats 4000000 in
theorem p_X12_stays0_38 {e : mEv} (hG : mGeo (mw0 e) lw_kept) (N : Nat) {f : mFx} (C0 : mCx f (mw0 e) sc0 cX12_stays0 5 RX12 lw_kept) (hFr : mFr f 3) : ∀ (n : Nat) (x1 : Int) (x2 : Int) (x3 : Int) (x4 : Int) (σ : mS) (out : (Int × mS) ⊕ (mS)), L_X12_stays0_38 N n x1 x2 x3 x4 σ = some out → (∀ v s, out = .inl (v, s) → mFin f (mw0 e) (some .boolean) (some (.inl v)) s) → (∀  (s : mS), out = .inr s → mWW f (mw0 e) sc0 5 (81, [some (.inr (.inr (71, 0))), some (.inl x1), some (.inl x2), some (.inl x3), none], [], s)) → mWW f (mw0 e) sc0 5 (38, [some (.inr (.inr (71, 0))), some (.inl x1), some (.inl x2), some (.inl x3), some (.inl x4)], [], σ) := by
  intro n
  induction n with
  | zero =>
    intro x1 x2 x3 x4 σ out h hX hK
    cases h
  | succ n IH =>
    intro x1 x2 x3 x4 σ out h hX hK
    rw [L_X12_stays0_38_s] at h
    refine m_blk C0 (pX12_ok rfl) kX12_stays0_ok 24 2 (43, [some (.inr (.inr (71, 0))), some (.inl x1), some (.inl x2), some (.inl x3), some (.inl x4)], [.inl 729, .inl x4], σ) (Ps := []) rfl trivial ?_
    refine b_ige C0 kX12_stays0_ok 26 (off := 38) (tgt := 81) rfl (by decide) (fun hb1807 => ?_) (fun hb1807 => ?_)
    · replace h := g_pos hb1807 h
      cases h
      refine m_mask [true, true, true, true, false] (ls' := [some (.inr (.inr (71, 0))), some (.inl x1), some (.inl x2), some (.inl x3), none]) rfl ?_
      exact hK _ rfl
    · replace h := g_neg hb1807 h
      obtain ⟨hc, h⟩ := g_if h
      refine m_blk C0 (pX12_ok rfl) kX12_stays0_ok 27 14 (70, [some (.inr (.inr (71, 0))), some (.inl x1), some (.inl x2), some (.inl x3), some (.inl x4)], [.inl (σ 81 0 ((mw ((mw ((729 : Int) * x1)) + x4)).toNat)), .inl (σ 81 0 ((mw ((5832 : Int) + x4)).toNat))], σ) (Ps := [0 ≤ (mw ((5832 : Int) + x4)) ∧ (mw ((5832 : Int) + x4)) < 7290, 0 ≤ (mw ((mw ((729 : Int) * x1)) + x4)) ∧ (mw ((mw ((729 : Int) * x1)) + x4)) < 7290]) rfl (And.intro hc.1 (And.intro hc.2 trivial)) ?_
      refine b_ieq C0 kX12_stays0_ok 41 (off := 5) (tgt := 75) rfl (by decide) (fun hb1806 => ?_) (fun hb1806 => ?_)
      · replace h := g_pos hb1806 h
        refine m_blk C0 (pX12_ok rfl) kX12_stays0_ok 44 2 (38, [some (.inr (.inr (71, 0))), some (.inl x1), some (.inl x2), some (.inl x3), some (.inl (mw (x4 + 1)))], [], σ) (Ps := []) rfl trivial ?_
        refine m_mask [true, true, true, true, true] (ls' := [some (.inr (.inr (71, 0))), some (.inl x1), some (.inl x2), some (.inl x3), some (.inl (mw (x4 + 1)))]) rfl ?_
        exact IH _ _ _ _ _ _ h hX hK
      · replace h := g_neg hb1806 h
        refine m_blk C0 (pX12_ok rfl) kX12_stays0_ok 42 1 (74, [some (.inr (.inr (71, 0))), some (.inl x1), some (.inl x2), some (.inl x3), some (.inl x4)], [.inl 0], σ) (Ps := []) rfl trivial ?_
        cases h
        exact m_iret C0 (hX _ _ rfl) (k_at kX12_stays0_ok 43 rfl) (Or.inr ⟨rfl, by decide⟩)
set_option maxRecDepth 100000 in
set_option maxHeartbeats 4000000 in
theorem p_X12_stays0_2 {e : mEv} (hG : mGeo (mw0 e) lw_kept) (N : Nat) {f : mFx} (C0 : mCx f (mw0 e) sc0 cX12_stays0 5 RX12 lw_kept) (hFr : mFr f 3) : ∀ (n : Nat) (x1 : Int) (x2 : Int) (x3 : Int) (σ : mS) (out : (Int × mS) ⊕ (mS)), L_X12_stays0_2 N n x1 x2 x3 σ = some out → (∀ v s, out = .inl (v, s) → mFin f (mw0 e) (some .boolean) (some (.inl v)) s) → (∀  (s : mS), out = .inr s → mWW f (mw0 e) sc0 5 (87, [none, none, none, none, none], [], s)) → mWW f (mw0 e) sc0 5 (2, [some (.inr (.inr (71, 0))), some (.inl x1), some (.inl x2), some (.inl x3), none], [], σ) := by
  intro n
  induction n with
  | zero =>
    intro x1 x2 x3 σ out h hX hK
    cases h
  | succ n IH =>
    intro x1 x2 x3 σ out h hX hK
    rw [L_X12_stays0_2_s] at h
    refine m_blk C0 (pX12_ok rfl) kX12_stays0_ok 2 3 (7, [some (.inr (.inr (71, 0))), some (.inl x1), some (.inl x2), some (.inl x3), none], [.inl (σ 71 0 6), .inl x3], σ) (Ps := []) rfl trivial ?_
    refine b_ige C0 kX12_stays0_ok 5 (off := 80) (tgt := 87) rfl (by decide) (fun hb1814 => ?_) (fun hb1814 => ?_)
    · replace h := g_pos hb1814 h
      cases h
      refine m_mask [false, false, false, false, false] (ls' := [none, none, none, none, none]) rfl ?_
      exact hK _ rfl
    · replace h := g_neg hb1814 h
      refine m_blk C0 (pX12_ok rfl) kX12_stays0_ok 6 2 (13, [some (.inr (.inr (71, 0))), some (.inl x1), some (.inl x2), some (.inl x3), none], [.inl 8, .inr (.inr (71, 0))], σ) (Ps := []) rfl trivial ?_
      obtain ⟨s1804, hq1813, h⟩ := g_bind h
      refine c_V (rest := []) C0 hFr (t_X12_clear hG f.2.1 N hq1813) lk_X12_200 (k_at kX12_stays0_ok 8 rfl) rfl rfl rfl rfl ⟨_, _, rfl⟩ (by decide) (by decide) (Nat.le_of_ble_eq_true rfl) ?_
      obtain ⟨hc, h⟩ := g_if h
      refine m_blk C0 (pX12_ok rfl) kX12_stays0_ok 9 12 (32, [some (.inr (.inr (71, 0))), some (.inl x1), some (.inl x2), some (.inl x3), none], [.inl (s1804 79 0 ((mw ((mw ((48 : Int) * x2)) + x3)).toNat)), .inl x3, .inl x1, .inl 8, .inr (.inr (71, 0))], s1804) (Ps := [0 ≤ (mw ((mw ((48 : Int) * x2)) + x3)) ∧ (mw ((mw ((48 : Int) * x2)) + x3)) < 768]) rfl (And.intro hc trivial) ?_
      obtain ⟨s1805, hq1812, h⟩ := g_bind h
      refine c_V (rest := []) C0 hFr (t_X12_adds hG f.2.1 N hq1812) lk_X12_228 (k_at kX12_stays0_ok 21 rfl) rfl rfl rfl rfl ⟨_, _, rfl⟩ (by decide) (by decide) (Nat.le_of_ble_eq_true rfl) ?_
      refine m_blk C0 (pX12_ok rfl) kX12_stays0_ok 22 2 (38, [some (.inr (.inr (71, 0))), some (.inl x1), some (.inl x2), some (.inl x3), some (.inl 0)], [], s1805) (Ps := []) rfl trivial ?_
      obtain ⟨o, hq1809, h⟩ := g_bind h
      refine m_mask [true, true, true, true, true] (ls' := [some (.inr (.inr (71, 0))), some (.inl x1), some (.inl x2), some (.inl x3), some (.inl 0)]) rfl ?_
      rcases o with ⟨v1810, s1811⟩ | s1808
      · cases h
        exact p_X12_stays0_38 hG N C0 hFr N _ _ _ _ _ _ hq1809 (fun v s e => by cases e; exact hX _ _ rfl) (fun _ e => by cases e)
      · refine p_X12_stays0_38 hG N C0 hFr N _ _ _ _ _ _ hq1809 (fun v s e => by cases e) (fun _ e => ?_)
        cases e
        refine m_blk C0 (pX12_ok rfl) kX12_stays0_ok 46 2 (2, [some (.inr (.inr (71, 0))), some (.inl x1), some (.inl x2), some (.inl (mw (x3 + 1))), none], [], s1808) (Ps := []) rfl trivial ?_
        refine m_mask [true, true, true, true, false] (ls' := [some (.inr (.inr (71, 0))), some (.inl x1), some (.inl x2), some (.inl (mw (x3 + 1))), none]) rfl ?_
        exact IH _ _ _ _ _ h hX hK
set_option maxRecDepth 100000 in
set_option maxHeartbeats 4000000 in
theorem t_X12_stays0 {e : mEv} (hG : mGeo (mw0 e) lw_kept) (l : Launch) (N : Nat) {a1 : Int} {a2 : Int} {σ σ' : mS} {v : Int} (h : f_X12_stays0 N a1 a2 σ = some (v, σ')) : mMet l (mw0 e) lw_kept 3 yX12_stays0 cX12_stays0 5 (some .boolean) [.inr (.inr (71, 0)), .inl a1, .inl a2] σ (some (.inl v)) σ' := by
  refine mMet_intro (plainFor_of_name (by decide)) hG (Nat.le_of_ble_eq_true rfl) (fun f hl hR C0 hFin => ?_)
  subst hl
  have hFr := mFr_of hR hFin
  unfold f_X12_stays0 at h
  show mWW f (mw0 e) sc0 5 (0, [some (.inr (.inr (71, 0))), some (.inl a1), some (.inl a2), none, none], [], σ)
  refine m_blk C0 (pX12_ok rfl) kX12_stays0_ok 0 2 (2, [some (.inr (.inr (71, 0))), some (.inl a1), some (.inl a2), some (.inl 0), none], [], σ) (Ps := []) rfl trivial ?_
  obtain ⟨o, hq1816, h⟩ := g_bind h
  refine m_mask [true, true, true, true, false] (ls' := [some (.inr (.inr (71, 0))), some (.inl a1), some (.inl a2), some (.inl 0), none]) rfl ?_
  rcases o with ⟨v1817, s1818⟩ | s1815
  · cases h
    exact p_X12_stays0_2 hG N C0 hFr N _ _ _ _ _ hq1816 (fun v s e => by cases e; exact hFin) (fun _ e => by cases e)
  · refine p_X12_stays0_2 hG N C0 hFr N _ _ _ _ _ hq1816 (fun v s e => by cases e) (fun _ e => ?_)
    cases e
    refine m_blk C0 (pX12_ok rfl) kX12_stays0_ok 48 1 (88, [none, none, none, none, none], [.inl 1], s1815) (Ps := []) rfl trivial ?_
    cases h
    exact m_iret C0 hFin (k_at kX12_stays0_ok 49 rfl) (Or.inr ⟨rfl, by decide⟩)
set_option maxRecDepth 100000 in
set_option maxHeartbeats 4000000 in
theorem t_X12_stays {e : mEv} (hG : mGeo (mw0 e) lw_kept) (l : Launch) (N : Nat) {a1 : Int} {a2 : Int} {σ σ' : mS} {v : Int} (h : f_X12_stays N a1 a2 σ = some (v, σ')) : mMet l (mw0 e) lw_kept 4 yX12_stays cX12_stays 3 (some .int) [.inr (.inr (71, 0)), .inl a1, .inl a2] σ (some (.inl v)) σ' := by
  refine mMet_intro (plainFor_of_name (by decide)) hG (Nat.le_of_ble_eq_true rfl) (fun f hl hR C0 hFin => ?_)
  subst hl
  have hFr := mFr_of hR hFin
  unfold f_X12_stays at h
  show mWW f (mw0 e) sc0 3 (0, [some (.inr (.inr (71, 0))), some (.inl a1), some (.inl a2)], [], σ)
  refine m_blk C0 (pX12_ok rfl) kX12_stays_ok 0 1 (1, [some (.inr (.inr (71, 0))), some (.inl a1), some (.inl a2)], [.inl a1], σ) (Ps := []) rfl trivial ?_
  obtain ⟨⟨v1801, s1800⟩, hq1826, h⟩ := g_bind h
  refine c_S (rest := []) C0 hFr (t_X12_isPoly hG f.2.1 N hq1826) lk_X12_184 (k_at kX12_stays_ok 1 rfl) rfl rfl rfl (by decide) (by decide) (Nat.le_of_ble_eq_true rfl) ?_
  refine b_eq C0 kX12_stays_ok 2 (off := 11) (tgt := 15) rfl (by decide) (fun hb1825 => ?_) (fun hb1825 => ?_)
  · replace h := g_pos hb1825 h
    refine m_blk C0 (pX12_ok rfl) kX12_stays_ok 7 2 (33, [some (.inr (.inr (71, 0))), some (.inl a1), some (.inl a2)], [.inl (-1)], s1800) (Ps := []) rfl trivial ?_
    cases h
    exact m_iret C0 hFin (k_at kX12_stays_ok 17 rfl) (Or.inl rfl)
  · replace h := g_neg hb1825 h
    refine m_blk C0 (pX12_ok rfl) kX12_stays_ok 3 2 (9, [some (.inr (.inr (71, 0))), some (.inl a1), some (.inl a2)], [.inl a2, .inr (.inr (71, 0))], s1800) (Ps := []) rfl trivial ?_
    obtain ⟨⟨v1803, s1802⟩, hq1824, h⟩ := g_bind h
    refine c_V (rest := []) C0 hFr (t_X12_isSign hG f.2.1 N hq1824) lk_X12_153 (k_at kX12_stays_ok 5 rfl) rfl rfl rfl rfl ⟨_, _, rfl⟩ (by decide) (by decide) (Nat.le_of_ble_eq_true rfl) ?_
    refine b_ne C0 kX12_stays_ok 6 (off := 7) (tgt := 19) rfl (by decide) (fun hb1823 => ?_) (fun hb1823 => ?_)
    · replace h := g_neg hb1823 h
      refine m_blk C0 (pX12_ok rfl) kX12_stays_ok 9 3 (22, [some (.inr (.inr (71, 0))), some (.inl a1), some (.inl a2)], [.inl a2, .inl a1, .inr (.inr (71, 0))], s1802) (Ps := []) rfl trivial ?_
      obtain ⟨⟨v1820, s1819⟩, hq1822, h⟩ := g_bind h
      refine c_V (rest := []) C0 hFr (t_X12_stays0 hG f.2.1 N hq1822) lk_X12_237 (k_at kX12_stays_ok 12 rfl) rfl rfl rfl rfl ⟨_, _, rfl⟩ (by decide) (by decide) (Nat.le_of_ble_eq_true rfl) ?_
      refine b_eq C0 kX12_stays_ok 13 (off := 7) (tgt := 32) rfl (by decide) (fun hb1821 => ?_) (fun hb1821 => ?_)
      · replace h := g_pos hb1821 h
        refine m_blk C0 (pX12_ok rfl) kX12_stays_ok 16 1 (33, [some (.inr (.inr (71, 0))), some (.inl a1), some (.inl a2)], [.inl 0], s1819) (Ps := []) rfl trivial ?_
        cases h
        exact m_iret C0 hFin (k_at kX12_stays_ok 17 rfl) (Or.inl rfl)
      · replace h := g_neg hb1821 h
        refine m_blk C0 (pX12_ok rfl) kX12_stays_ok 14 2 (33, [some (.inr (.inr (71, 0))), some (.inl a1), some (.inl a2)], [.inl 1], s1819) (Ps := []) rfl trivial ?_
        cases h
        exact m_iret C0 hFin (k_at kX12_stays_ok 17 rfl) (Or.inl rfl)
    · replace h := g_pos hb1823 h
      refine m_blk C0 (pX12_ok rfl) kX12_stays_ok 7 2 (33, [some (.inr (.inr (71, 0))), some (.inl a1), some (.inl a2)], [.inl (-1)], s1802) (Ps := []) rfl trivial ?_
      cases h
      exact m_iret C0 hFin (k_at kX12_stays_ok 17 rfl) (Or.inl rfl)
set_option maxRecDepth 100000 in
set_option maxHeartbeats 4000000 in
theorem p_X12_counts_6 {e : mEv} (hG : mGeo (mw0 e) lw_kept) (N : Nat) {f : mFx} (C0 : mCx f (mw0 e) sc0 cX12_counts 7 RX12 lw_kept) (hFr : mFr f 2) : ∀ (n : Nat) (x1 : Int) (x2 : Int) (x3 : Int) (x4 : Int) (x5 : Int) (x6 : Int) (σ : mS) (out : (Int × mS) ⊕ (Int × mS)), L_X12_counts_6 N n x1 x2 x3 x4 x5 x6 σ = some out → (∀ v s, out = .inl (v, s) → mFin f (mw0 e) (some .boolean) (some (.inl v)) s) → (∀ (o5 : Int) (s : mS), out = .inr (o5, s) → mWW f (mw0 e) sc0 7 (103, [none, none, none, none, none, some (.inl o5), none], [], s)) → mWW f (mw0 e) sc0 7 (6, [some (.inr (.inr (71, 0))), some (.inl x1), some (.inl x2), some (.inl x3), some (.inl x4), some (.inl x5), some (.inl x6)], [], σ) := by
  intro n
  induction n with
  | zero =>
    intro x1 x2 x3 x4 x5 x6 σ out h hX hK
    cases h
  | succ n IH =>
    intro x1 x2 x3 x4 x5 x6 σ out h hX hK
    rw [L_X12_counts_6_s] at h
    refine m_blk C0 (pX12_ok rfl) kX12_counts_ok 4 3 (12, [some (.inr (.inr (71, 0))), some (.inl x1), some (.inl x2), some (.inl x3), some (.inl x4), some (.inl x5), some (.inl x6)], [.inl (σ 71 0 6), .inl x6], σ) (Ps := []) rfl trivial ?_
    refine b_ige C0 kX12_counts_ok 7 (off := 91) (tgt := 103) rfl (by decide) (fun hb1843 => ?_) (fun hb1843 => ?_)
    · replace h := g_pos hb1843 h
      cases h
      refine m_mask [false, false, false, false, false, true, false] (ls' := [none, none, none, none, none, some (.inl x5), none]) rfl ?_
      exact hK _ _ rfl
    · replace h := g_neg hb1843 h
      refine m_blk C0 (pX12_ok rfl) kX12_counts_ok 8 5 (21, [some (.inr (.inr (71, 0))), some (.inl x1), some (.inl x2), some (.inl x3), some (.inl x4), some (.inl x5), some (.inl x6)], [.inl x3, .inl x2, .inl x1, .inl x6, .inr (.inr (71, 0))], σ) (Ps := []) rfl trivial ?_
      obtain ⟨s1831, hq1842, h⟩ := g_bind h
      refine c_V (rest := []) C0 hFr (t_X12_turns hG f.2.1 N hq1842) lk_X12_224 (k_at kX12_counts_ok 13 rfl) rfl rfl rfl rfl ⟨_, _, rfl⟩ (by decide) (by decide) (Nat.le_of_ble_eq_true rfl) ?_
      refine m_blk C0 (pX12_ok rfl) kX12_counts_ok 14 6 (36, [some (.inr (.inr (71, 0))), some (.inl x1), some (.inl x2), some (.inl x3), some (.inl x4), some (.inl x5), some (.inl x6)], [.inl (s1831 71 0 16), .inl (s1831 71 0 15), .inl (s1831 71 0 14)], s1831) (Ps := []) rfl trivial ?_
      obtain ⟨⟨v1833, s1832⟩, hq1841, h⟩ := g_bind h
      refine c_S (rest := []) C0 hFr (t_X12_at hG f.2.1 N hq1841) lk_X12_181 (k_at kX12_counts_ok 20 rfl) rfl rfl rfl (by decide) (by decide) (Nat.le_of_ble_eq_true rfl) ?_
      refine m_blk C0 (pX12_ok rfl) kX12_counts_ok 21 3 (42, [some (.inr (.inr (71, 0))), some (.inl x1), some (.inl x2), some (.inl x3), some (.inl x4), some (.inl x5), some (.inl x6)], [.inl x3, .inl x2, .inl x1, .inl v1833], s1832) (Ps := []) rfl trivial ?_
      obtain ⟨⟨v1835, s1834⟩, hq1840, h⟩ := g_bind h
      refine c_S (rest := [.inl v1833]) C0 hFr (t_X12_at hG f.2.1 N hq1840) lk_X12_181 (k_at kX12_counts_ok 24 rfl) rfl rfl rfl (by decide) (by decide) (Nat.le_of_ble_eq_true rfl) ?_
      refine b_ile C0 kX12_counts_ok 25 (off := 5) (tgt := 50) rfl (by decide) (fun hb1839 => ?_) (fun hb1839 => ?_)
      · replace h := g_pos hb1839 h
        refine m_blk C0 (pX12_ok rfl) kX12_counts_ok 28 3 (55, [some (.inr (.inr (71, 0))), some (.inl x1), some (.inl x2), some (.inl x3), some (.inl x4), some (.inl x5), some (.inl x6)], [.inl x1, .inl (s1834 71 0 14)], s1834) (Ps := []) rfl trivial ?_
        refine b_ine C0 kX12_counts_ok 31 (off := 42) (tgt := 97) rfl (by decide) (fun hb1838 => ?_) (fun hb1838 => ?_)
        · replace h := g_neg hb1838 h
          refine m_blk C0 (pX12_ok rfl) kX12_counts_ok 54 2 (6, [some (.inr (.inr (71, 0))), some (.inl x1), some (.inl x2), some (.inl x3), some (.inl x4), some (.inl x5), some (.inl (mw (x6 + 1)))], [], s1834) (Ps := []) rfl trivial ?_
          refine m_mask [true, true, true, true, true, true, true] (ls' := [some (.inr (.inr (71, 0))), some (.inl x1), some (.inl x2), some (.inl x3), some (.inl x4), some (.inl x5), some (.inl (mw (x6 + 1)))]) rfl ?_
          exact IH _ _ _ _ _ _ _ _ h hX hK
        · replace h := g_pos hb1838 h
          refine m_blk C0 (pX12_ok rfl) kX12_counts_ok 32 3 (63, [some (.inr (.inr (71, 0))), some (.inl x1), some (.inl x2), some (.inl x3), some (.inl x4), some (.inl x5), some (.inl x6)], [.inl x2, .inl (s1834 71 0 15)], s1834) (Ps := []) rfl trivial ?_
          refine b_ine C0 kX12_counts_ok 35 (off := 34) (tgt := 97) rfl (by decide) (fun hb1837 => ?_) (fun hb1837 => ?_)
          · replace h := g_neg hb1837 h
            refine m_blk C0 (pX12_ok rfl) kX12_counts_ok 54 2 (6, [some (.inr (.inr (71, 0))), some (.inl x1), some (.inl x2), some (.inl x3), some (.inl x4), some (.inl x5), some (.inl (mw (x6 + 1)))], [], s1834) (Ps := []) rfl trivial ?_
            refine m_mask [true, true, true, true, true, true, true] (ls' := [some (.inr (.inr (71, 0))), some (.inl x1), some (.inl x2), some (.inl x3), some (.inl x4), some (.inl x5), some (.inl (mw (x6 + 1)))]) rfl ?_
            exact IH _ _ _ _ _ _ _ _ h hX hK
          · replace h := g_pos hb1837 h
            refine m_blk C0 (pX12_ok rfl) kX12_counts_ok 36 3 (71, [some (.inr (.inr (71, 0))), some (.inl x1), some (.inl x2), some (.inl x3), some (.inl x4), some (.inl x5), some (.inl x6)], [.inl x3, .inl (s1834 71 0 16)], s1834) (Ps := []) rfl trivial ?_
            refine b_ine C0 kX12_counts_ok 39 (off := 26) (tgt := 97) rfl (by decide) (fun hb1836 => ?_) (fun hb1836 => ?_)
            · replace h := g_neg hb1836 h
              refine m_blk C0 (pX12_ok rfl) kX12_counts_ok 54 2 (6, [some (.inr (.inr (71, 0))), some (.inl x1), some (.inl x2), some (.inl x3), some (.inl x4), some (.inl x5), some (.inl (mw (x6 + 1)))], [], s1834) (Ps := []) rfl trivial ?_
              refine m_mask [true, true, true, true, true, true, true] (ls' := [some (.inr (.inr (71, 0))), some (.inl x1), some (.inl x2), some (.inl x3), some (.inl x4), some (.inl x5), some (.inl (mw (x6 + 1)))]) rfl ?_
              exact IH _ _ _ _ _ _ _ _ h hX hK
            · replace h := g_pos hb1836 h
              obtain ⟨hc, h⟩ := g_if h
              refine m_blk C0 (pX12_ok rfl) kX12_counts_ok 40 16 (6, [some (.inr (.inr (71, 0))), some (.inl x1), some (.inl x2), some (.inl x3), some (.inl x4), some (.inl (mw (x5 + (mw ((s1834 71 0 17) * (s1834 79 0 ((mw ((mw ((48 : Int) * x4)) + x6)).toNat))))))), some (.inl (mw (x6 + 1)))], [], s1834) (Ps := [0 ≤ (mw ((mw ((48 : Int) * x4)) + x6)) ∧ (mw ((mw ((48 : Int) * x4)) + x6)) < 768]) rfl (And.intro hc trivial) ?_
              refine m_mask [true, true, true, true, true, true, true] (ls' := [some (.inr (.inr (71, 0))), some (.inl x1), some (.inl x2), some (.inl x3), some (.inl x4), some (.inl (mw (x5 + (mw ((s1834 71 0 17) * (s1834 79 0 ((mw ((mw ((48 : Int) * x4)) + x6)).toNat))))))), some (.inl (mw (x6 + 1)))]) rfl ?_
              exact IH _ _ _ _ _ _ _ _ h hX hK
      · replace h := g_neg hb1839 h
        refine m_blk C0 (pX12_ok rfl) kX12_counts_ok 26 1 (49, [some (.inr (.inr (71, 0))), some (.inl x1), some (.inl x2), some (.inl x3), some (.inl x4), some (.inl x5), some (.inl x6)], [.inl 0], s1834) (Ps := []) rfl trivial ?_
        cases h
        exact m_iret C0 (hX _ _ rfl) (k_at kX12_counts_ok 27 rfl) (Or.inr ⟨rfl, by decide⟩)
set_option maxRecDepth 100000 in
set_option maxHeartbeats 4000000 in
theorem t_X12_counts {e : mEv} (hG : mGeo (mw0 e) lw_kept) (l : Launch) (N : Nat) {a1 : Int} {a2 : Int} {a3 : Int} {a4 : Int} {σ σ' : mS} {v : Int} (h : f_X12_counts N a1 a2 a3 a4 σ = some (v, σ')) : mMet l (mw0 e) lw_kept 2 yX12_counts cX12_counts 7 (some .boolean) [.inr (.inr (71, 0)), .inl a1, .inl a2, .inl a3, .inl a4] σ (some (.inl v)) σ' := by
  refine mMet_intro (plainFor_of_name (by decide)) hG (Nat.le_of_ble_eq_true rfl) (fun f hl hR C0 hFin => ?_)
  subst hl
  have hFr := mFr_of hR hFin
  unfold f_X12_counts at h
  show mWW f (mw0 e) sc0 7 (0, [some (.inr (.inr (71, 0))), some (.inl a1), some (.inl a2), some (.inl a3), some (.inl a4), none, none], [], σ)
  refine m_blk C0 (pX12_ok rfl) kX12_counts_ok 0 4 (6, [some (.inr (.inr (71, 0))), some (.inl a1), some (.inl a2), some (.inl a3), some (.inl a4), some (.inl 0), some (.inl 0)], [], σ) (Ps := []) rfl trivial ?_
  obtain ⟨o, hq1847, h⟩ := g_bind h
  refine m_mask [true, true, true, true, true, true, true] (ls' := [some (.inr (.inr (71, 0))), some (.inl a1), some (.inl a2), some (.inl a3), some (.inl a4), some (.inl 0), some (.inl 0)]) rfl ?_
  rcases o with ⟨v1848, s1849⟩ | ⟨o1845, s1844⟩
  · cases h
    exact p_X12_counts_6 hG N C0 hFr N _ _ _ _ _ _ _ _ hq1847 (fun v s e => by cases e; exact hFin) (fun _ _ e => by cases e)
  · refine p_X12_counts_6 hG N C0 hFr N _ _ _ _ _ _ _ _ hq1847 (fun v s e => by cases e) (fun _ _ e => ?_)
    cases e
    refine m_blk C0 (pX12_ok rfl) kX12_counts_ok 56 1 (105, [none, none, none, none, none, some (.inl o1845), none], [.inl o1845], s1844) (Ps := []) rfl trivial ?_
    refine b_eq C0 kX12_counts_ok 57 (off := 7) (tgt := 112) rfl (by decide) (fun hb1846 => ?_) (fun hb1846 => ?_)
    · replace h := g_pos hb1846 h
      refine m_blk C0 (pX12_ok rfl) kX12_counts_ok 60 1 (113, [none, none, none, none, none, some (.inl o1845), none], [.inl 0], s1844) (Ps := []) rfl trivial ?_
      cases h
      exact m_iret C0 hFin (k_at kX12_counts_ok 61 rfl) (Or.inr ⟨rfl, by decide⟩)
    · replace h := g_neg hb1846 h
      refine m_blk C0 (pX12_ok rfl) kX12_counts_ok 58 2 (113, [none, none, none, none, none, some (.inl o1845), none], [.inl 1], s1844) (Ps := []) rfl trivial ?_
      cases h
      exact m_iret C0 hFin (k_at kX12_counts_ok 61 rfl) (Or.inr ⟨rfl, by decide⟩)
set_option maxRecDepth 100000 in
set_option maxHeartbeats 4000000 in
theorem p_X12_count0_14 {e : mEv} (hG : mGeo (mw0 e) lw_kept) (N : Nat) {f : mFx} (C0 : mCx f (mw0 e) sc0 cX12_count0 6 RX12 lw_kept) (hFr : mFr f 3) : ∀ (n : Nat) (x1 : Int) (x2 : Int) (x3 : Int) (x4 : Int) (x5 : Int) (σ : mS) (o3 : Int) (σ' : mS), L_X12_count0_14 N n x1 x2 x3 x4 x5 σ = some (o3, σ') → mWW f (mw0 e) sc0 6 (56, [some (.inr (.inr (71, 0))), some (.inl x1), some (.inl x2), some (.inl o3), some (.inl x4), none], [], σ') → mWW f (mw0 e) sc0 6 (14, [some (.inr (.inr (71, 0))), some (.inl x1), some (.inl x2), some (.inl x3), some (.inl x4), some (.inl x5)], [], σ) := by
  intro n
  induction n with
  | zero =>
    intro x1 x2 x3 x4 x5 σ o3 σ' h hK
    cases h
  | succ n IH =>
    intro x1 x2 x3 x4 x5 σ o3 σ' h hK
    rw [L_X12_count0_14_s] at h
    refine m_blk C0 (pX12_ok rfl) kX12_count0_ok 9 4 (20, [some (.inr (.inr (71, 0))), some (.inl x1), some (.inl x2), some (.inl x3), some (.inl x4), some (.inl x5)], [.inl x1, .inl (mw (x4 + x5))], σ) (Ps := []) rfl trivial ?_
    refine b_igt C0 kX12_count0_ok 13 (off := 36) (tgt := 56) rfl (by decide) (fun hb1854 => ?_) (fun hb1854 => ?_)
    · replace h := g_pos hb1854 h
      cases h
      refine m_mask [true, true, true, true, true, false] (ls' := [some (.inr (.inr (71, 0))), some (.inl x1), some (.inl x2), some (.inl x3), some (.inl x4), none]) rfl ?_
      exact hK
    · replace h := g_neg hb1854 h
      refine m_blk C0 (pX12_ok rfl) kX12_count0_ok 14 10 (37, [some (.inr (.inr (71, 0))), some (.inl x1), some (.inl x2), some (.inl x3), some (.inl x4), some (.inl x5)], [.inl x2, .inl (mw ((mw (x1 - x4)) - x5)), .inl x5, .inl x4, .inr (.inr (71, 0)), .inl x3], σ) (Ps := []) rfl trivial ?_
      obtain ⟨⟨v1851, s1850⟩, hq1853, h⟩ := g_bind h
      refine c_V (rest := [.inl x3]) C0 hFr (t_X12_counts hG f.2.1 N hq1853) lk_X12_240 (k_at kX12_count0_ok 24 rfl) rfl rfl rfl rfl ⟨_, _, rfl⟩ (by decide) (by decide) (Nat.le_of_ble_eq_true rfl) ?_
      refine b_eq C0 kX12_count0_ok 25 (off := 7) (tgt := 47) rfl (by decide) (fun hb1852 => ?_) (fun hb1852 => ?_)
      · replace h := g_pos hb1852 h
        refine m_blk C0 (pX12_ok rfl) kX12_count0_ok 28 5 (14, [some (.inr (.inr (71, 0))), some (.inl x1), some (.inl x2), some (.inl (mw (x3 + 0))), some (.inl x4), some (.inl (mw (x5 + 1)))], [], s1850) (Ps := []) rfl trivial ?_
        refine m_mask [true, true, true, true, true, true] (ls' := [some (.inr (.inr (71, 0))), some (.inl x1), some (.inl x2), some (.inl (mw (x3 + 0))), some (.inl x4), some (.inl (mw (x5 + 1)))]) rfl ?_
        exact IH _ _ _ _ _ _ _ _ h hK
      · replace h := g_neg hb1852 h
        refine m_blk C0 (pX12_ok rfl) kX12_count0_ok 26 2 (48, [some (.inr (.inr (71, 0))), some (.inl x1), some (.inl x2), some (.inl x3), some (.inl x4), some (.inl x5)], [.inl 1, .inl x3], s1850) (Ps := []) rfl trivial ?_
        refine m_blk C0 (pX12_ok rfl) kX12_count0_ok 29 4 (14, [some (.inr (.inr (71, 0))), some (.inl x1), some (.inl x2), some (.inl (mw (x3 + 1))), some (.inl x4), some (.inl (mw (x5 + 1)))], [], s1850) (Ps := []) rfl trivial ?_
        refine m_mask [true, true, true, true, true, true] (ls' := [some (.inr (.inr (71, 0))), some (.inl x1), some (.inl x2), some (.inl (mw (x3 + 1))), some (.inl x4), some (.inl (mw (x5 + 1)))]) rfl ?_
        exact IH _ _ _ _ _ _ _ _ h hK
set_option maxRecDepth 100000 in
set_option maxHeartbeats 4000000 in
theorem p_X12_count0_5 {e : mEv} (hG : mGeo (mw0 e) lw_kept) (N : Nat) {f : mFx} (C0 : mCx f (mw0 e) sc0 cX12_count0 6 RX12 lw_kept) (hFr : mFr f 3) : ∀ (n : Nat) (x1 : Int) (x2 : Int) (x3 : Int) (x4 : Int) (σ : mS) (o3 : Int) (σ' : mS), L_X12_count0_5 N n x1 x2 x3 x4 σ = some (o3, σ') → mWW f (mw0 e) sc0 6 (62, [none, none, none, some (.inl o3), none, none], [], σ') → mWW f (mw0 e) sc0 6 (5, [some (.inr (.inr (71, 0))), some (.inl x1), some (.inl x2), some (.inl x3), some (.inl x4), none], [], σ) := by
  intro n
  induction n with
  | zero =>
    intro x1 x2 x3 x4 σ o3 σ' h hK
    cases h
  | succ n IH =>
    intro x1 x2 x3 x4 σ o3 σ' h hK
    rw [L_X12_count0_5_s] at h
    refine m_blk C0 (pX12_ok rfl) kX12_count0_ok 4 2 (8, [some (.inr (.inr (71, 0))), some (.inl x1), some (.inl x2), some (.inl x3), some (.inl x4), none], [.inl x1, .inl x4], σ) (Ps := []) rfl trivial ?_
    refine b_igt C0 kX12_count0_ok 6 (off := 54) (tgt := 62) rfl (by decide) (fun hb1858 => ?_) (fun hb1858 => ?_)
    · replace h := g_pos hb1858 h
      cases h
      refine m_mask [false, false, false, true, false, false] (ls' := [none, none, none, some (.inl x3), none, none]) rfl ?_
      exact hK
    · replace h := g_neg hb1858 h
      refine m_blk C0 (pX12_ok rfl) kX12_count0_ok 7 2 (14, [some (.inr (.inr (71, 0))), some (.inl x1), some (.inl x2), some (.inl x3), some (.inl x4), some (.inl 0)], [], σ) (Ps := []) rfl trivial ?_
      obtain ⟨⟨o1856, s1855⟩, hq1857, h⟩ := g_bind h
      refine m_mask [true, true, true, true, true, true] (ls' := [some (.inr (.inr (71, 0))), some (.inl x1), some (.inl x2), some (.inl x3), some (.inl x4), some (.inl 0)]) rfl ?_
      refine p_X12_count0_14 hG N C0 hFr N _ _ _ _ _ _ _ _ hq1857 ?_
      refine m_blk C0 (pX12_ok rfl) kX12_count0_ok 33 2 (5, [some (.inr (.inr (71, 0))), some (.inl x1), some (.inl x2), some (.inl o1856), some (.inl (mw (x4 + 1))), none], [], s1855) (Ps := []) rfl trivial ?_
      refine m_mask [true, true, true, true, true, false] (ls' := [some (.inr (.inr (71, 0))), some (.inl x1), some (.inl x2), some (.inl o1856), some (.inl (mw (x4 + 1))), none]) rfl ?_
      exact IH _ _ _ _ _ _ _ h hK
set_option maxRecDepth 100000 in
set_option maxHeartbeats 4000000 in
theorem t_X12_count0 {e : mEv} (hG : mGeo (mw0 e) lw_kept) (l : Launch) (N : Nat) {a1 : Int} {a2 : Int} {σ σ' : mS} {v : Int} (h : f_X12_count0 N a1 a2 σ = some (v, σ')) : mMet l (mw0 e) lw_kept 3 yX12_count0 cX12_count0 6 (some .int) [.inr (.inr (71, 0)), .inl a1, .inl a2] σ (some (.inl v)) σ' := by
  refine mMet_intro (plainFor_of_name (by decide)) hG (Nat.le_of_ble_eq_true rfl) (fun f hl hR C0 hFin => ?_)
  subst hl
  have hFr := mFr_of hR hFin
  unfold f_X12_count0 at h
  show mWW f (mw0 e) sc0 6 (0, [some (.inr (.inr (71, 0))), some (.inl a1), some (.inl a2), none, none, none], [], σ)
  refine m_blk C0 (pX12_ok rfl) kX12_count0_ok 0 4 (5, [some (.inr (.inr (71, 0))), some (.inl a1), some (.inl a2), some (.inl 0), some (.inl 0), none], [], σ) (Ps := []) rfl trivial ?_
  obtain ⟨⟨o1860, s1859⟩, hq1861, h⟩ := g_bind h
  refine m_mask [true, true, true, true, true, false] (ls' := [some (.inr (.inr (71, 0))), some (.inl a1), some (.inl a2), some (.inl 0), some (.inl 0), none]) rfl ?_
  refine p_X12_count0_5 hG N C0 hFr N _ _ _ _ _ _ _ hq1861 ?_
  refine m_blk C0 (pX12_ok rfl) kX12_count0_ok 35 1 (63, [none, none, none, some (.inl o1860), none, none], [.inl o1860], s1859) (Ps := []) rfl trivial ?_
  cases h
  exact m_iret C0 hFin (k_at kX12_count0_ok 36 rfl) (Or.inl rfl)
set_option maxRecDepth 100000 in
set_option maxHeartbeats 4000000 in
theorem t_X12_count {e : mEv} (hG : mGeo (mw0 e) lw_kept) (l : Launch) (N : Nat) {a1 : Int} {a2 : Int} {σ σ' : mS} {v : Int} (h : f_X12_count N a1 a2 σ = some (v, σ')) : mMet l (mw0 e) lw_kept 4 yX12_count cX12_count 3 (some .int) [.inr (.inr (71, 0)), .inl a1, .inl a2] σ (some (.inl v)) σ' := by
  refine mMet_intro (plainFor_of_name (by decide)) hG (Nat.le_of_ble_eq_true rfl) (fun f hl hR C0 hFin => ?_)
  subst hl
  have hFr := mFr_of hR hFin
  unfold f_X12_count at h
  show mWW f (mw0 e) sc0 3 (0, [some (.inr (.inr (71, 0))), some (.inl a1), some (.inl a2)], [], σ)
  refine m_blk C0 (pX12_ok rfl) kX12_count_ok 0 3 (4, [some (.inr (.inr (71, 0))), some (.inl a1), some (.inl a2)], [.inl 8, .inl 0, .inl a1], σ) (Ps := []) rfl trivial ?_
  obtain ⟨⟨v1828, s1827⟩, hq1868, h⟩ := g_bind h
  refine c_S (rest := []) C0 hFr (t_X12_isIn hG f.2.1 N hq1868) lk_X12_110 (k_at kX12_count_ok 3 rfl) rfl rfl rfl (by decide) (by decide) (Nat.le_of_ble_eq_true rfl) ?_
  refine b_eq C0 kX12_count_ok 4 (off := 20) (tgt := 27) rfl (by decide) (fun hb1867 => ?_) (fun hb1867 => ?_)
  · replace h := g_pos hb1867 h
    refine m_blk C0 (pX12_ok rfl) kX12_count_ok 14 1 (28, [some (.inr (.inr (71, 0))), some (.inl a1), some (.inl a2)], [.inl (-1)], s1827) (Ps := []) rfl trivial ?_
    cases h
    exact m_iret C0 hFin (k_at kX12_count_ok 15 rfl) (Or.inl rfl)
  · replace h := g_neg hb1867 h
    refine m_blk C0 (pX12_ok rfl) kX12_count_ok 5 2 (12, [some (.inr (.inr (71, 0))), some (.inl a1), some (.inl a2)], [.inl a2, .inr (.inr (71, 0))], s1827) (Ps := []) rfl trivial ?_
    obtain ⟨⟨v1830, s1829⟩, hq1866, h⟩ := g_bind h
    refine c_V (rest := []) C0 hFr (t_X12_isSign hG f.2.1 N hq1866) lk_X12_153 (k_at kX12_count_ok 7 rfl) rfl rfl rfl rfl ⟨_, _, rfl⟩ (by decide) (by decide) (Nat.le_of_ble_eq_true rfl) ?_
    refine b_eq C0 kX12_count_ok 8 (off := 12) (tgt := 27) rfl (by decide) (fun hb1865 => ?_) (fun hb1865 => ?_)
    · replace h := g_pos hb1865 h
      refine m_blk C0 (pX12_ok rfl) kX12_count_ok 14 1 (28, [some (.inr (.inr (71, 0))), some (.inl a1), some (.inl a2)], [.inl (-1)], s1829) (Ps := []) rfl trivial ?_
      cases h
      exact m_iret C0 hFin (k_at kX12_count_ok 15 rfl) (Or.inl rfl)
    · replace h := g_neg hb1865 h
      refine m_blk C0 (pX12_ok rfl) kX12_count_ok 9 3 (21, [some (.inr (.inr (71, 0))), some (.inl a1), some (.inl a2)], [.inl a2, .inl a1, .inr (.inr (71, 0))], s1829) (Ps := []) rfl trivial ?_
      obtain ⟨⟨v1863, s1862⟩, hq1864, h⟩ := g_bind h
      refine c_V (rest := []) C0 hFr (t_X12_count0 hG f.2.1 N hq1864) lk_X12_244 (k_at kX12_count_ok 12 rfl) rfl rfl rfl rfl ⟨_, _, rfl⟩ (by decide) (by decide) (Nat.le_of_ble_eq_true rfl) ?_
      refine m_blk C0 (pX12_ok rfl) kX12_count_ok 13 1 (28, [some (.inr (.inr (71, 0))), some (.inl a1), some (.inl a2)], [.inl v1863], s1862) (Ps := []) rfl trivial ?_
      cases h
      exact m_iret C0 hFin (k_at kX12_count_ok 15 rfl) (Or.inl rfl)
set_option maxRecDepth 100000 in
set_option maxHeartbeats 4000000 in
theorem p_X12_ringLong_10 {e : mEv} (hG : mGeo (mw0 e) lw_kept) (N : Nat) {f : mFx} (C0 : mCx f (mw0 e) sc0 cX12_ringLong 5 RX12 lw_kept) (hFr : mFr f 2) : ∀ (n : Nat) (x1 : Int) (x2 : Int) (x3 : Int) (x4 : Int) (σ : mS) (o3 : Int) (σ' : mS), L_X12_ringLong_10 N n x1 x2 x3 x4 σ = some (o3, σ') → mWW f (mw0 e) sc0 5 (31, [none, none, none, some (.inl o3), none], [], σ') → mWW f (mw0 e) sc0 5 (10, [some (.inr (.inr (71, 0))), some (.inl x1), some (.inl x2), some (.inl x3), some (.inl x4)], [], σ) := by
  intro n
  induction n with
  | zero =>
    intro x1 x2 x3 x4 σ o3 σ' h hK
    cases h
  | succ n IH =>
    intro x1 x2 x3 x4 σ o3 σ' h hK
    rw [L_X12_ringLong_10_s] at h
    refine m_blk C0 (pX12_ok rfl) kX12_ringLong_ok 7 2 (13, [some (.inr (.inr (71, 0))), some (.inl x1), some (.inl x2), some (.inl x3), some (.inl x4)], [.inl x2, .inl x4], σ) (Ps := []) rfl trivial ?_
    refine b_ieq C0 kX12_ringLong_ok 9 (off := 18) (tgt := 31) rfl (by decide) (fun hb1883 => ?_) (fun hb1883 => ?_)
    · replace h := g_pos hb1883 h
      cases h
      refine m_mask [false, false, false, true, false] (ls' := [none, none, none, some (.inl x3), none]) rfl ?_
      exact hK
    · replace h := g_neg hb1883 h
      refine m_blk C0 (pX12_ok rfl) kX12_ringLong_ok 10 4 (23, [some (.inr (.inr (71, 0))), some (.inl x1), some (.inl x2), some (.inl (mw (x3 + 1))), some (.inl x4)], [.inl x4, .inl x1, .inr (.inr (71, 0))], σ) (Ps := []) rfl trivial ?_
      obtain ⟨⟨v1881, s1880⟩, hq1882, h⟩ := g_bind h
      refine c_V (rest := []) C0 hFr (t_X12_to hG f.2.1 N hq1882) lk_X12_162 (k_at kX12_ringLong_ok 14 rfl) rfl rfl rfl rfl ⟨_, _, rfl⟩ (by decide) (by decide) (Nat.le_of_ble_eq_true rfl) ?_
      refine m_blk C0 (pX12_ok rfl) kX12_ringLong_ok 15 2 (10, [some (.inr (.inr (71, 0))), some (.inl x1), some (.inl x2), some (.inl (mw (x3 + 1))), some (.inl v1881)], [], s1880) (Ps := []) rfl trivial ?_
      refine m_mask [true, true, true, true, true] (ls' := [some (.inr (.inr (71, 0))), some (.inl x1), some (.inl x2), some (.inl (mw (x3 + 1))), some (.inl v1881)]) rfl ?_
      exact IH _ _ _ _ _ _ _ h hK
set_option maxRecDepth 100000 in
set_option maxHeartbeats 4000000 in
theorem t_X12_ringLong {e : mEv} (hG : mGeo (mw0 e) lw_kept) (l : Launch) (N : Nat) {a1 : Int} {a2 : Int} {σ σ' : mS} {v : Int} (h : f_X12_ringLong N a1 a2 σ = some (v, σ')) : mMet l (mw0 e) lw_kept 2 yX12_ringLong cX12_ringLong 5 (some .int) [.inr (.inr (71, 0)), .inl a1, .inl a2] σ (some (.inl v)) σ' := by
  refine mMet_intro (plainFor_of_name (by decide)) hG (Nat.le_of_ble_eq_true rfl) (fun f hl hR C0 hFin => ?_)
  subst hl
  have hFr := mFr_of hR hFin
  unfold f_X12_ringLong at h
  show mWW f (mw0 e) sc0 5 (0, [some (.inr (.inr (71, 0))), some (.inl a1), some (.inl a2), none, none], [], σ)
  refine m_blk C0 (pX12_ok rfl) kX12_ringLong_ok 0 5 (5, [some (.inr (.inr (71, 0))), some (.inl a1), some (.inl a2), some (.inl 1), none], [.inl a2, .inl a1, .inr (.inr (71, 0))], σ) (Ps := []) rfl trivial ?_
  obtain ⟨⟨v1879, s1878⟩, hq1887, h⟩ := g_bind h
  refine c_V (rest := []) C0 hFr (t_X12_to hG f.2.1 N hq1887) lk_X12_162 (k_at kX12_ringLong_ok 5 rfl) rfl rfl rfl rfl ⟨_, _, rfl⟩ (by decide) (by decide) (Nat.le_of_ble_eq_true rfl) ?_
  refine m_blk C0 (pX12_ok rfl) kX12_ringLong_ok 6 1 (10, [some (.inr (.inr (71, 0))), some (.inl a1), some (.inl a2), some (.inl 1), some (.inl v1879)], [], s1878) (Ps := []) rfl trivial ?_
  obtain ⟨⟨o1885, s1884⟩, hq1886, h⟩ := g_bind h
  refine m_mask [true, true, true, true, true] (ls' := [some (.inr (.inr (71, 0))), some (.inl a1), some (.inl a2), some (.inl 1), some (.inl v1879)]) rfl ?_
  refine p_X12_ringLong_10 hG N C0 hFr N _ _ _ _ _ _ _ hq1886 ?_
  refine m_blk C0 (pX12_ok rfl) kX12_ringLong_ok 17 1 (32, [none, none, none, some (.inl o1885), none], [.inl o1885], s1884) (Ps := []) rfl trivial ?_
  cases h
  exact m_iret C0 hFin (k_at kX12_ringLong_ok 18 rfl) (Or.inl rfl)
set_option maxRecDepth 100000 in
set_option maxHeartbeats 4000000 in
theorem p_X12_series_38 {e : mEv} (hG : mGeo (mw0 e) lw_kept) (N : Nat) {f : mFx} (C0 : mCx f (mw0 e) sc0 cX12_series 10 RX12 lw_kept) (hFr : mFr f 3) : ∀ (n : Nat) (x1 : Int) (x2 : Int) (x3 : Int) (x5 : Int) (x6 : Int) (σ : mS) (σ' : mS), L_X12_series_38 N n x1 x2 x3 x5 x6 σ = some σ' → mWW f (mw0 e) sc0 10 (67, [some (.inr (.inr (71, 0))), some (.inl x1), some (.inl x2), some (.inr (.inl x3)), none, some (.inl x5), none, none, none, none], [], σ') → mWW f (mw0 e) sc0 10 (38, [some (.inr (.inr (71, 0))), some (.inl x1), some (.inl x2), some (.inr (.inl x3)), none, some (.inl x5), some (.inl x6), none, none, none], [], σ) := by
  intro n
  induction n with
  | zero =>
    intro x1 x2 x3 x5 x6 σ σ' h hK
    cases h
  | succ n IH =>
    intro x1 x2 x3 x5 x6 σ σ' h hK
    rw [L_X12_series_38_s] at h
    refine m_blk C0 (pX12_ok rfl) kX12_series_ok 21 2 (41, [some (.inr (.inr (71, 0))), some (.inl x1), some (.inl x2), some (.inr (.inl x3)), none, some (.inl x5), some (.inl x6), none, none, none], [.inl x1, .inl x6], σ) (Ps := []) rfl trivial ?_
    refine b_igt C0 kX12_series_ok 23 (off := 26) (tgt := 67) rfl (by decide) (fun hb1874 => ?_) (fun hb1874 => ?_)
    · replace h := g_pos hb1874 h
      cases h
      refine m_mask [true, true, true, true, false, true, false, false, false, false] (ls' := [some (.inr (.inr (71, 0))), some (.inl x1), some (.inl x2), some (.inr (.inl x3)), none, some (.inl x5), none, none, none, none]) rfl ?_
      exact hK
    · replace h := g_neg hb1874 h
      refine m_blk C0 (pX12_ok rfl) kX12_series_ok 24 4 (52, [some (.inr (.inr (71, 0))), some (.inl x1), some (.inl x2), some (.inr (.inl x3)), none, some (.inl x5), some (.inl x6), none, none, none], [.inl x6, .inl x6, .inr (.inr (82, 0))], σ) (Ps := []) rfl trivial ?_
      refine b_ne C0 kX12_series_ok 28 (off := 7) (tgt := 59) rfl (by decide) (fun hb1873 => ?_) (fun hb1873 => ?_)
      · replace h := g_neg hb1873 h
        obtain ⟨hc, h⟩ := g_if h
        refine m_blk C0 (pX12_ok rfl) kX12_series_ok 31 2 (61, [some (.inr (.inr (71, 0))), some (.inl x1), some (.inl x2), some (.inr (.inl x3)), none, some (.inl x5), some (.inl x6), none, none, none], [], (mup σ 82 0 x6.toNat 0)) (Ps := [0 ≤ x6 ∧ x6 < 201]) rfl (And.intro hc trivial) ?_
        refine m_blk C0 (pX12_ok rfl) kX12_series_ok 33 2 (38, [some (.inr (.inr (71, 0))), some (.inl x1), some (.inl x2), some (.inr (.inl x3)), none, some (.inl x5), some (.inl (mw (x6 + 1))), none, none, none], [], (mup σ 82 0 x6.toNat 0)) (Ps := []) rfl trivial ?_
        refine m_mask [true, true, true, true, false, true, true, false, false, false] (ls' := [some (.inr (.inr (71, 0))), some (.inl x1), some (.inl x2), some (.inr (.inl x3)), none, some (.inl x5), some (.inl (mw (x6 + 1))), none, none, none]) rfl ?_
        exact IH _ _ _ _ _ _ _ h hK
      · replace h := g_pos hb1873 h
        refine m_blk C0 (pX12_ok rfl) kX12_series_ok 29 2 (60, [some (.inr (.inr (71, 0))), some (.inl x1), some (.inl x2), some (.inr (.inl x3)), none, some (.inl x5), some (.inl x6), none, none, none], [.inr (.inl 1), .inl x6, .inr (.inr (82, 0))], σ) (Ps := []) rfl trivial ?_
        obtain ⟨hc, h⟩ := g_if h
        refine m_blk C0 (pX12_ok rfl) kX12_series_ok 32 1 (61, [some (.inr (.inr (71, 0))), some (.inl x1), some (.inl x2), some (.inr (.inl x3)), none, some (.inl x5), some (.inl x6), none, none, none], [], (mup σ 82 0 x6.toNat 1)) (Ps := [0 ≤ x6 ∧ x6 < 201]) rfl (And.intro hc trivial) ?_
        refine m_blk C0 (pX12_ok rfl) kX12_series_ok 33 2 (38, [some (.inr (.inr (71, 0))), some (.inl x1), some (.inl x2), some (.inr (.inl x3)), none, some (.inl x5), some (.inl (mw (x6 + 1))), none, none, none], [], (mup σ 82 0 x6.toNat 1)) (Ps := []) rfl trivial ?_
        refine m_mask [true, true, true, true, false, true, true, false, false, false] (ls' := [some (.inr (.inr (71, 0))), some (.inl x1), some (.inl x2), some (.inr (.inl x3)), none, some (.inl x5), some (.inl (mw (x6 + 1))), none, none, none]) rfl ?_
        exact IH _ _ _ _ _ _ _ h hK
set_option maxRecDepth 100000 in
set_option maxHeartbeats 4000000 in
theorem p_X12_series_116 {e : mEv} (hG : mGeo (mw0 e) lw_kept) (N : Nat) {f : mFx} (C0 : mCx f (mw0 e) sc0 cX12_series 10 RX12 lw_kept) (hFr : mFr f 3) : ∀ (n : Nat) (x1 : Int) (x2 : Int) (x3 : Int) (x5 : Int) (x6 : Int) (x7 : Int) (x8 : Int) (x9 : Int) (σ : mS) (σ' : mS), L_X12_series_116 N n x1 x2 x3 x5 x6 x7 x8 x9 σ = some σ' → mWW f (mw0 e) sc0 10 (152, [some (.inr (.inr (71, 0))), some (.inl x1), some (.inl x2), some (.inr (.inl x3)), none, some (.inl x5), some (.inl x6), none, none, none], [], σ') → mWW f (mw0 e) sc0 10 (116, [some (.inr (.inr (71, 0))), some (.inl x1), some (.inl x2), some (.inr (.inl x3)), none, some (.inl x5), some (.inl x6), some (.inl x7), some (.inl x8), some (.inl x9)], [], σ) := by
  intro n
  induction n with
  | zero =>
    intro x1 x2 x3 x5 x6 x7 x8 x9 σ σ' h hK
    cases h
  | succ n IH =>
    intro x1 x2 x3 x5 x6 x7 x8 x9 σ σ' h hK
    rw [L_X12_series_116_s] at h
    refine m_blk C0 (pX12_ok rfl) kX12_series_ok 59 2 (119, [some (.inr (.inr (71, 0))), some (.inl x1), some (.inl x2), some (.inr (.inl x3)), none, some (.inl x5), some (.inl x6), some (.inl x7), some (.inl x8), some (.inl x9)], [.inl x1, .inl x9], σ) (Ps := []) rfl trivial ?_
    refine b_igt C0 kX12_series_ok 61 (off := 33) (tgt := 152) rfl (by decide) (fun hb1892 => ?_) (fun hb1892 => ?_)
    · replace h := g_pos hb1892 h
      cases h
      refine m_mask [true, true, true, true, false, true, true, false, false, false] (ls' := [some (.inr (.inr (71, 0))), some (.inl x1), some (.inl x2), some (.inr (.inl x3)), none, some (.inl x5), some (.inl x6), none, none, none]) rfl ?_
      exact hK
    · replace h := g_neg hb1892 h
      obtain ⟨hc, h⟩ := g_if h
      refine m_blk C0 (pX12_ok rfl) kX12_series_ok 62 16 (146, [some (.inr (.inr (71, 0))), some (.inl x1), some (.inl x2), some (.inr (.inl x3)), none, some (.inl x5), some (.inl x6), some (.inl x7), some (.inl x8), some (.inl x9)], [], (mup σ 82 0 x9.toNat (mx ((σ 82 0 x9.toNat) + (mx (x8 * (σ 82 0 ((mw (x9 - x7)).toNat)))))))) (Ps := [0 ≤ x9 ∧ x9 < 201, 0 ≤ (mw (x9 - x7)) ∧ (mw (x9 - x7)) < 201, 0 ≤ x9 ∧ x9 < 201]) rfl (And.intro hc.1 (And.intro hc.2 (And.intro hc.1 trivial))) ?_
      refine m_blk C0 (pX12_ok rfl) kX12_series_ok 78 2 (116, [some (.inr (.inr (71, 0))), some (.inl x1), some (.inl x2), some (.inr (.inl x3)), none, some (.inl x5), some (.inl x6), some (.inl x7), some (.inl x8), some (.inl (mw (x9 + 1)))], [], (mup σ 82 0 x9.toNat (mx ((σ 82 0 x9.toNat) + (mx (x8 * (σ 82 0 ((mw (x9 - x7)).toNat)))))))) (Ps := []) rfl trivial ?_
      refine m_mask [true, true, true, true, false, true, true, true, true, true] (ls' := [some (.inr (.inr (71, 0))), some (.inl x1), some (.inl x2), some (.inr (.inl x3)), none, some (.inl x5), some (.inl x6), some (.inl x7), some (.inl x8), some (.inl (mw (x9 + 1)))]) rfl ?_
      exact IH _ _ _ _ _ _ _ _ _ _ h hK
set_option maxRecDepth 100000 in
set_option maxHeartbeats 4000000 in
theorem p_X12_series_70 {e : mEv} (hG : mGeo (mw0 e) lw_kept) (N : Nat) {f : mFx} (C0 : mCx f (mw0 e) sc0 cX12_series 10 RX12 lw_kept) (hFr : mFr f 3) : ∀ (n : Nat) (x1 : Int) (x2 : Int) (x3 : Int) (x5 : Int) (x6 : Int) (σ : mS) (σ' : mS), L_X12_series_70 N n x1 x2 x3 x5 x6 σ = some σ' → mWW f (mw0 e) sc0 10 (158, [some (.inr (.inr (71, 0))), some (.inl x1), some (.inl x2), some (.inr (.inl x3)), none, some (.inl x5), none, none, none, none], [], σ') → mWW f (mw0 e) sc0 10 (70, [some (.inr (.inr (71, 0))), some (.inl x1), some (.inl x2), some (.inr (.inl x3)), none, some (.inl x5), some (.inl x6), none, none, none], [], σ) := by
  intro n
  induction n with
  | zero =>
    intro x1 x2 x3 x5 x6 σ σ' h hK
    cases h
  | succ n IH =>
    intro x1 x2 x3 x5 x6 σ σ' h hK
    rw [L_X12_series_70_s] at h
    refine m_blk C0 (pX12_ok rfl) kX12_series_ok 37 2 (73, [some (.inr (.inr (71, 0))), some (.inl x1), some (.inl x2), some (.inr (.inl x3)), none, some (.inl x5), some (.inl x6), none, none, none], [.inl 3, .inl x6], σ) (Ps := []) rfl trivial ?_
    refine b_ige C0 kX12_series_ok 39 (off := 85) (tgt := 158) rfl (by decide) (fun hb1899 => ?_) (fun hb1899 => ?_)
    · replace h := g_pos hb1899 h
      cases h
      refine m_mask [true, true, true, true, false, true, false, false, false, false] (ls' := [some (.inr (.inr (71, 0))), some (.inl x1), some (.inl x2), some (.inr (.inl x3)), none, some (.inl x5), none, none, none, none]) rfl ?_
      exact hK
    · replace h := g_neg hb1899 h
      refine m_blk C0 (pX12_ok rfl) kX12_series_ok 40 3 (81, [some (.inr (.inr (71, 0))), some (.inl x1), some (.inl x2), some (.inr (.inl x3)), none, some (.inl x5), some (.inl x6), none, none, none], [.inl x6, .inl x5, .inr (.inr (71, 0))], σ) (Ps := []) rfl trivial ?_
      obtain ⟨⟨v1877, s1876⟩, hq1898, h⟩ := g_bind h
      refine c_V (rest := []) C0 hFr (t_X12_ringLeast hG f.2.1 N hq1898) lk_X12_156 (k_at kX12_series_ok 43 rfl) rfl rfl rfl rfl ⟨_, _, rfl⟩ (by decide) (by decide) (Nat.le_of_ble_eq_true rfl) ?_
      refine m_blk C0 (pX12_ok rfl) kX12_series_ok 44 1 (86, [some (.inr (.inr (71, 0))), some (.inl x1), some (.inl x2), some (.inr (.inl x3)), none, some (.inl x5), some (.inl x6), none, none, none], [.inl x6, .inl v1877], s1876) (Ps := []) rfl trivial ?_
      refine b_ieq C0 kX12_series_ok 45 (off := 6) (tgt := 92) rfl (by decide) (fun hb1897 => ?_) (fun hb1897 => ?_)
      · replace h := g_pos hb1897 h
        refine m_blk C0 (pX12_ok rfl) kX12_series_ok 47 3 (97, [some (.inr (.inr (71, 0))), some (.inl x1), some (.inl x2), some (.inr (.inl x3)), none, some (.inl x5), some (.inl x6), none, none, none], [.inl x6, .inl x5, .inr (.inr (71, 0))], s1876) (Ps := []) rfl trivial ?_
        obtain ⟨⟨v1889, s1888⟩, hq1896, h⟩ := g_bind h
        refine c_V (rest := []) C0 hFr (t_X12_ringLong hG f.2.1 N hq1896) lk_X12_247 (k_at kX12_series_ok 50 rfl) rfl rfl rfl rfl ⟨_, _, rfl⟩ (by decide) (by decide) (Nat.le_of_ble_eq_true rfl) ?_
        refine m_blk C0 (pX12_ok rfl) kX12_series_ok 51 4 (107, [some (.inr (.inr (71, 0))), some (.inl x1), some (.inl x2), some (.inr (.inl x3)), none, some (.inl x5), some (.inl x6), some (.inl v1889), none, none], [.inl x6, .inl x5, .inr (.inr (71, 0))], s1888) (Ps := []) rfl trivial ?_
        obtain ⟨⟨v1891, s1890⟩, hq1895, h⟩ := g_bind h
        refine c_V (rest := []) C0 hFr (t_X12_ringSign hG f.2.1 N hq1895) lk_X12_159 (k_at kX12_series_ok 55 rfl) rfl rfl rfl rfl ⟨_, _, rfl⟩ (by decide) (by decide) (Nat.le_of_ble_eq_true rfl) ?_
        refine m_blk C0 (pX12_ok rfl) kX12_series_ok 56 3 (116, [some (.inr (.inr (71, 0))), some (.inl x1), some (.inl x2), some (.inr (.inl x3)), none, some (.inl x5), some (.inl x6), some (.inl v1889), some (.inl v1891), some (.inl v1889)], [], s1890) (Ps := []) rfl trivial ?_
        obtain ⟨s1893, hq1894, h⟩ := g_bind h
        refine m_mask [true, true, true, true, false, true, true, true, true, true] (ls' := [some (.inr (.inr (71, 0))), some (.inl x1), some (.inl x2), some (.inr (.inl x3)), none, some (.inl x5), some (.inl x6), some (.inl v1889), some (.inl v1891), some (.inl v1889)]) rfl ?_
        refine p_X12_series_116 hG N C0 hFr N _ _ _ _ _ _ _ _ _ _ hq1894 ?_
        refine m_blk C0 (pX12_ok rfl) kX12_series_ok 80 2 (70, [some (.inr (.inr (71, 0))), some (.inl x1), some (.inl x2), some (.inr (.inl x3)), none, some (.inl x5), some (.inl (mw (x6 + 1))), none, none, none], [], s1893) (Ps := []) rfl trivial ?_
        refine m_mask [true, true, true, true, false, true, true, false, false, false] (ls' := [some (.inr (.inr (71, 0))), some (.inl x1), some (.inl x2), some (.inr (.inl x3)), none, some (.inl x5), some (.inl (mw (x6 + 1))), none, none, none]) rfl ?_
        exact IH _ _ _ _ _ _ _ h hK
      · replace h := g_neg hb1897 h
        refine m_blk C0 (pX12_ok rfl) kX12_series_ok 46 1 (152, [some (.inr (.inr (71, 0))), some (.inl x1), some (.inl x2), some (.inr (.inl x3)), none, some (.inl x5), some (.inl x6), none, none, none], [], s1876) (Ps := []) rfl trivial ?_
        refine m_blk C0 (pX12_ok rfl) kX12_series_ok 80 2 (70, [some (.inr (.inr (71, 0))), some (.inl x1), some (.inl x2), some (.inr (.inl x3)), none, some (.inl x5), some (.inl (mw (x6 + 1))), none, none, none], [], s1876) (Ps := []) rfl trivial ?_
        refine m_mask [true, true, true, true, false, true, true, false, false, false] (ls' := [some (.inr (.inr (71, 0))), some (.inl x1), some (.inl x2), some (.inr (.inl x3)), none, some (.inl x5), some (.inl (mw (x6 + 1))), none, none, none]) rfl ?_
        exact IH _ _ _ _ _ _ _ h hK
set_option maxRecDepth 100000 in
set_option maxHeartbeats 4000000 in
theorem p_X12_series_26 {e : mEv} (hG : mGeo (mw0 e) lw_kept) (N : Nat) {f : mFx} (C0 : mCx f (mw0 e) sc0 cX12_series 10 RX12 lw_kept) (hFr : mFr f 3) : ∀ (n : Nat) (x1 : Int) (x2 : Int) (x3 : Int) (x5 : Int) (σ : mS) (o3 : Int) (σ' : mS), L_X12_series_26 N n x1 x2 x3 x5 σ = some (o3, σ') → mWW f (mw0 e) sc0 10 (187, [some (.inr (.inr (71, 0))), none, none, some (.inr (.inl o3)), none, none, none, none, none, none], [], σ') → mWW f (mw0 e) sc0 10 (26, [some (.inr (.inr (71, 0))), some (.inl x1), some (.inl x2), some (.inr (.inl x3)), none, some (.inl x5), none, none, none, none], [], σ) := by
  intro n
  induction n with
  | zero =>
    intro x1 x2 x3 x5 σ o3 σ' h hK
    cases h
  | succ n IH =>
    intro x1 x2 x3 x5 σ o3 σ' h hK
    rw [L_X12_series_26_s] at h
    refine m_blk C0 (pX12_ok rfl) kX12_series_ok 15 3 (32, [some (.inr (.inr (71, 0))), some (.inl x1), some (.inl x2), some (.inr (.inl x3)), none, some (.inl x5), none, none, none, none], [.inl (σ 71 0 6), .inl x5], σ) (Ps := []) rfl trivial ?_
    refine b_ige C0 kX12_series_ok 18 (off := 155) (tgt := 187) rfl (by decide) (fun hb1903 => ?_) (fun hb1903 => ?_)
    · replace h := g_pos hb1903 h
      cases h
      refine m_mask [true, false, false, true, false, false, false, false, false, false] (ls' := [some (.inr (.inr (71, 0))), none, none, some (.inr (.inl x3)), none, none, none, none, none, none]) rfl ?_
      exact hK
    · replace h := g_neg hb1903 h
      refine m_blk C0 (pX12_ok rfl) kX12_series_ok 19 2 (38, [some (.inr (.inr (71, 0))), some (.inl x1), some (.inl x2), some (.inr (.inl x3)), none, some (.inl x5), some (.inl 0), none, none, none], [], σ) (Ps := []) rfl trivial ?_
      obtain ⟨s1875, hq1902, h⟩ := g_bind h
      refine m_mask [true, true, true, true, false, true, true, false, false, false] (ls' := [some (.inr (.inr (71, 0))), some (.inl x1), some (.inl x2), some (.inr (.inl x3)), none, some (.inl x5), some (.inl 0), none, none, none]) rfl ?_
      refine p_X12_series_38 hG N C0 hFr N _ _ _ _ _ _ _ hq1902 ?_
      refine m_blk C0 (pX12_ok rfl) kX12_series_ok 35 2 (70, [some (.inr (.inr (71, 0))), some (.inl x1), some (.inl x2), some (.inr (.inl x3)), none, some (.inl x5), some (.inl 0), none, none, none], [], s1875) (Ps := []) rfl trivial ?_
      obtain ⟨s1900, hq1901, h⟩ := g_bind h
      refine m_mask [true, true, true, true, false, true, true, false, false, false] (ls' := [some (.inr (.inr (71, 0))), some (.inl x1), some (.inl x2), some (.inr (.inl x3)), none, some (.inl x5), some (.inl 0), none, none, none]) rfl ?_
      refine p_X12_series_70 hG N C0 hFr N _ _ _ _ _ _ _ hq1901 ?_
      obtain ⟨hc, h⟩ := g_if h
      refine m_blk C0 (pX12_ok rfl) kX12_series_ok 82 16 (180, [some (.inr (.inr (71, 0))), some (.inl x1), some (.inl x2), some (.inr (.inl x3)), none, some (.inl x5), none, none, none, none], [.inr (.inl (mx (x3 + (mx ((s1900 79 0 ((mw ((mw ((48 : Int) * x2)) + x5)).toNat)) * (s1900 82 0 x1.toNat))))))], s1900) (Ps := [0 ≤ (mw ((mw ((48 : Int) * x2)) + x5)) ∧ (mw ((mw ((48 : Int) * x2)) + x5)) < 768, 0 ≤ x1 ∧ x1 < 201]) rfl (And.intro hc.1 (And.intro hc.2 trivial)) ?_
      refine m_blk C0 (pX12_ok rfl) kX12_series_ok 98 3 (26, [some (.inr (.inr (71, 0))), some (.inl x1), some (.inl x2), some (.inr (.inl (mx (x3 + (mx ((s1900 79 0 ((mw ((mw ((48 : Int) * x2)) + x5)).toNat)) * (s1900 82 0 x1.toNat))))))), none, some (.inl (mw (x5 + 1))), none, none, none, none], [], s1900) (Ps := []) rfl trivial ?_
      refine m_mask [true, true, true, true, false, true, false, false, false, false] (ls' := [some (.inr (.inr (71, 0))), some (.inl x1), some (.inl x2), some (.inr (.inl (mx (x3 + (mx ((s1900 79 0 ((mw ((mw ((48 : Int) * x2)) + x5)).toNat)) * (s1900 82 0 x1.toNat))))))), none, some (.inl (mw (x5 + 1))), none, none, none, none]) rfl ?_
      exact IH _ _ _ _ _ _ _ h hK
set_option maxRecDepth 100000 in
set_option maxHeartbeats 4000000 in
theorem t_X12_series {e : mEv} (hG : mGeo (mw0 e) lw_kept) (l : Launch) (N : Nat) {a1 : Int} {a2 : Int} {σ σ' : mS} {v : Int} (h : f_X12_series N a1 a2 σ = some (v, σ')) : mMet l (mw0 e) lw_kept 3 yX12_series cX12_series 10 (some .int) [.inr (.inr (71, 0)), .inl a1, .inl a2] σ (some (.inl v)) σ' := by
  refine mMet_intro (plainFor_of_name (by decide)) hG (Nat.le_of_ble_eq_true rfl) (fun f hl hR C0 hFin => ?_)
  subst hl
  have hFr := mFr_of hR hFin
  unfold f_X12_series at h
  show mWW f (mw0 e) sc0 10 (0, [some (.inr (.inr (71, 0))), some (.inl a1), some (.inl a2), none, none, none, none, none, none, none], [], σ)
  refine m_blk C0 (pX12_ok rfl) kX12_series_ok 0 3 (5, [some (.inr (.inr (71, 0))), some (.inl a1), some (.inl a2), none, none, none, none, none, none, none], [.inl 200, .inl 0, .inl a1], σ) (Ps := []) rfl trivial ?_
  obtain ⟨⟨v1870, s1869⟩, hq1910, h⟩ := g_bind h
  refine c_S (rest := []) C0 hFr (t_X12_isIn hG f.2.1 N hq1910) lk_X12_110 (k_at kX12_series_ok 3 rfl) rfl rfl rfl (by decide) (by decide) (Nat.le_of_ble_eq_true rfl) ?_
  refine b_eq C0 kX12_series_ok 4 (off := 11) (tgt := 19) rfl (by decide) (fun hb1909 => ?_) (fun hb1909 => ?_)
  · replace h := g_pos hb1909 h
    refine m_blk C0 (pX12_ok rfl) kX12_series_ok 9 1 (20, [some (.inr (.inr (71, 0))), some (.inl a1), some (.inl a2), none, none, none, none, none, none, none], [.inl (-1)], s1869) (Ps := []) rfl trivial ?_
    cases h
    exact m_iret C0 hFin (k_at kX12_series_ok 10 rfl) (Or.inl rfl)
  · replace h := g_neg hb1909 h
    refine m_blk C0 (pX12_ok rfl) kX12_series_ok 5 2 (13, [some (.inr (.inr (71, 0))), some (.inl a1), some (.inl a2), none, none, none, none, none, none, none], [.inl a2, .inr (.inr (71, 0))], s1869) (Ps := []) rfl trivial ?_
    obtain ⟨⟨v1872, s1871⟩, hq1908, h⟩ := g_bind h
    refine c_V (rest := []) C0 hFr (t_X12_isSign hG f.2.1 N hq1908) lk_X12_153 (k_at kX12_series_ok 7 rfl) rfl rfl rfl rfl ⟨_, _, rfl⟩ (by decide) (by decide) (Nat.le_of_ble_eq_true rfl) ?_
    refine b_ne C0 kX12_series_ok 8 (off := 5) (tgt := 21) rfl (by decide) (fun hb1907 => ?_) (fun hb1907 => ?_)
    · replace h := g_neg hb1907 h
      refine m_blk C0 (pX12_ok rfl) kX12_series_ok 11 4 (26, [some (.inr (.inr (71, 0))), some (.inl a1), some (.inl a2), some (.inr (.inl 0)), none, some (.inl 0), none, none, none, none], [], s1871) (Ps := []) rfl trivial ?_
      obtain ⟨⟨o1905, s1904⟩, hq1906, h⟩ := g_bind h
      refine m_mask [true, true, true, true, false, true, false, false, false, false] (ls' := [some (.inr (.inr (71, 0))), some (.inl a1), some (.inl a2), some (.inr (.inl 0)), none, some (.inl 0), none, none, none, none]) rfl ?_
      refine p_X12_series_26 hG N C0 hFr N _ _ _ _ _ _ _ hq1906 ?_
      obtain ⟨hc, h⟩ := g_if h
      refine m_blk C0 (pX12_ok rfl) kX12_series_ok 101 6 (195, [some (.inr (.inr (71, 0))), none, none, some (.inr (.inl o1905)), none, none, none, none, none, none], [.inl (mw (o_ldiv o1905 (s1904 71 0 6)))], s1904) (Ps := [¬ (s1904 71 0 6) = 0]) rfl (And.intro hc trivial) ?_
      cases h
      exact m_iret C0 hFin (k_at kX12_series_ok 107 rfl) (Or.inl rfl)
    · replace h := g_pos hb1907 h
      refine m_blk C0 (pX12_ok rfl) kX12_series_ok 9 1 (20, [some (.inr (.inr (71, 0))), some (.inl a1), some (.inl a2), none, none, none, none, none, none, none], [.inl (-1)], s1871) (Ps := []) rfl trivial ?_
      cases h
      exact m_iret C0 hFin (k_at kX12_series_ok 10 rfl) (Or.inl rfl)
set_option maxRecDepth 100000 in
set_option maxHeartbeats 4000000 in
theorem p_X12_few_26 {e : mEv} (hG : mGeo (mw0 e) lw_kept) (N : Nat) {f : mFx} (C0 : mCx f (mw0 e) sc0 cX12_few 4 RX12 lw_kept) (hFr : mFr f 3) : ∀ (n : Nat) (x1 : Int) (x2 : Int) (x3 : Int) (σ : mS) (σ' : mS), L_X12_few_26 N n x1 x2 x3 σ = some σ' → mWW f (mw0 e) sc0 4 (63, [some (.inr (.inr (71, 0))), some (.inl x1), none, none], [], σ') → mWW f (mw0 e) sc0 4 (26, [some (.inr (.inr (71, 0))), some (.inl x1), some (.inl x2), some (.inl x3)], [], σ) := by
  intro n
  induction n with
  | zero =>
    intro x1 x2 x3 σ σ' h hK
    cases h
  | succ n IH =>
    intro x1 x2 x3 σ σ' h hK
    rw [L_X12_few_26_s] at h
    refine m_blk C0 (pX12_ok rfl) kX12_few_ok 15 2 (30, [some (.inr (.inr (71, 0))), some (.inl x1), some (.inl x2), some (.inl x3)], [.inl 729, .inl x3], σ) (Ps := []) rfl trivial ?_
    refine b_ige C0 kX12_few_ok 17 (off := 33) (tgt := 63) rfl (by decide) (fun hb1915 => ?_) (fun hb1915 => ?_)
    · replace h := g_pos hb1915 h
      cases h
      refine m_mask [true, true, false, false] (ls' := [some (.inr (.inr (71, 0))), some (.inl x1), none, none]) rfl ?_
      exact hK
    · replace h := g_neg hb1915 h
      obtain ⟨hc, h⟩ := g_if h
      refine m_blk C0 (pX12_ok rfl) kX12_few_ok 18 16 (57, [some (.inr (.inr (71, 0))), some (.inl x1), some (.inl x2), some (.inl x3)], [], (mup σ 81 0 ((mw ((mw ((729 : Int) * x1)) + x3)).toNat) (σ 84 0 ((mw ((mw ((729 : Int) * x2)) + x3)).toNat)))) (Ps := [0 ≤ (mw ((mw ((729 : Int) * x2)) + x3)) ∧ (mw ((mw ((729 : Int) * x2)) + x3)) < 29160, 0 ≤ (mw ((mw ((729 : Int) * x1)) + x3)) ∧ (mw ((mw ((729 : Int) * x1)) + x3)) < 7290]) rfl (And.intro hc.1 (And.intro hc.2 trivial)) ?_
      refine m_blk C0 (pX12_ok rfl) kX12_few_ok 34 2 (26, [some (.inr (.inr (71, 0))), some (.inl x1), some (.inl x2), some (.inl (mw (x3 + 1)))], [], (mup σ 81 0 ((mw ((mw ((729 : Int) * x1)) + x3)).toNat) (σ 84 0 ((mw ((mw ((729 : Int) * x2)) + x3)).toNat)))) (Ps := []) rfl trivial ?_
      refine m_mask [true, true, true, true] (ls' := [some (.inr (.inr (71, 0))), some (.inl x1), some (.inl x2), some (.inl (mw (x3 + 1)))]) rfl ?_
      exact IH _ _ _ _ _ h hK
set_option maxRecDepth 100000 in
set_option maxHeartbeats 4000000 in
theorem t_X12_few {e : mEv} (hG : mGeo (mw0 e) lw_kept) (l : Launch) (N : Nat) {a1 : Int} {a2 : Int} {σ σ' : mS} {v : Int} (h : f_X12_few N a1 a2 σ = some (v, σ')) : mMet l (mw0 e) lw_kept 3 yX12_few cX12_few 4 (some .int) [.inr (.inr (71, 0)), .inl a1, .inl a2] σ (some (.inl v)) σ' := by
  refine mMet_intro (plainFor_of_name (by decide)) hG (Nat.le_of_ble_eq_true rfl) (fun f hl hR C0 hFin => ?_)
  subst hl
  have hFr := mFr_of hR hFin
  unfold f_X12_few at h
  show mWW f (mw0 e) sc0 4 (0, [some (.inr (.inr (71, 0))), some (.inl a1), some (.inl a2), none], [], σ)
  refine m_blk C0 (pX12_ok rfl) kX12_few_ok 0 1 (1, [some (.inr (.inr (71, 0))), some (.inl a1), some (.inl a2), none], [.inl a1], σ) (Ps := []) rfl trivial ?_
  obtain ⟨⟨v1912, s1911⟩, hq1924, h⟩ := g_bind h
  refine c_S (rest := []) C0 hFr (t_X12_isPoly hG f.2.1 N hq1924) lk_X12_184 (k_at kX12_few_ok 1 rfl) rfl rfl rfl (by decide) (by decide) (Nat.le_of_ble_eq_true rfl) ?_
  refine b_eq C0 kX12_few_ok 2 (off := 17) (tgt := 21) rfl (by decide) (fun hb1923 => ?_) (fun hb1923 => ?_)
  · replace h := g_pos hb1923 h
    refine m_blk C0 (pX12_ok rfl) kX12_few_ok 11 1 (23, [some (.inr (.inr (71, 0))), some (.inl a1), some (.inl a2), none], [.inl (-2)], s1911) (Ps := []) rfl trivial ?_
    cases h
    exact m_iret C0 hFin (k_at kX12_few_ok 12 rfl) (Or.inl rfl)
  · replace h := g_neg hb1923 h
    refine m_blk C0 (pX12_ok rfl) kX12_few_ok 3 6 (15, [some (.inr (.inr (71, 0))), some (.inl a1), some (.inl a2), none], [.inl (mw ((s1911 71 0 19) - 1)), .inl 0, .inl a2], s1911) (Ps := []) rfl trivial ?_
    obtain ⟨⟨v1914, s1913⟩, hq1922, h⟩ := g_bind h
    refine c_S (rest := []) C0 hFr (t_X12_isIn hG f.2.1 N hq1922) lk_X12_110 (k_at kX12_few_ok 9 rfl) rfl rfl rfl (by decide) (by decide) (Nat.le_of_ble_eq_true rfl) ?_
    refine b_ne C0 kX12_few_ok 10 (off := 6) (tgt := 24) rfl (by decide) (fun hb1921 => ?_) (fun hb1921 => ?_)
    · replace h := g_neg hb1921 h
      refine m_blk C0 (pX12_ok rfl) kX12_few_ok 13 2 (26, [some (.inr (.inr (71, 0))), some (.inl a1), some (.inl a2), some (.inl 0)], [], s1913) (Ps := []) rfl trivial ?_
      obtain ⟨s1916, hq1920, h⟩ := g_bind h
      refine m_mask [true, true, true, true] (ls' := [some (.inr (.inr (71, 0))), some (.inl a1), some (.inl a2), some (.inl 0)]) rfl ?_
      refine p_X12_few_26 hG N C0 hFr N _ _ _ _ _ hq1920 ?_
      refine m_blk C0 (pX12_ok rfl) kX12_few_ok 36 2 (65, [some (.inr (.inr (71, 0))), some (.inl a1), none, none], [.inl a1, .inr (.inr (71, 0))], s1916) (Ps := []) rfl trivial ?_
      obtain ⟨⟨v1918, s1917⟩, hq1919, h⟩ := g_bind h
      refine c_V (rest := []) C0 hFr (t_X12_degree0 hG f.2.1 N hq1919) lk_X12_197 (k_at kX12_few_ok 38 rfl) rfl rfl rfl rfl ⟨_, _, rfl⟩ (by decide) (by decide) (Nat.le_of_ble_eq_true rfl) ?_
      cases h
      exact m_iret C0 hFin (k_at kX12_few_ok 39 rfl) (Or.inl rfl)
    · replace h := g_pos hb1921 h
      refine m_blk C0 (pX12_ok rfl) kX12_few_ok 11 1 (23, [some (.inr (.inr (71, 0))), some (.inl a1), some (.inl a2), none], [.inl (-2)], s1913) (Ps := []) rfl trivial ?_
      cases h
      exact m_iret C0 hFin (k_at kX12_few_ok 12 rfl) (Or.inl rfl)
