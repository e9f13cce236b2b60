set_option maxRecDepth 100000 in
set_option maxHeartbeats 4000000 in
theorem p_X12_goes_67 {e : mEv} (hG : mGeo (mw0 e) lw_kept) (N : Nat) {f : mFx} {d : Nat} (C0 : mCx f (mw0 e) sc0 cX12_goes 4 RX12 lw_kept) (hFr : mFr f (d + 1)) {cal : Int → Int → mS → Option (mS)} (hcal : ∀ {a1 : Int} {a2 : Int} {σ σ' : mS}, cal a1 a2 σ = some σ' → mMet f.2.1 (mw0 e) lw_kept d yX12_goes cX12_goes 4 none [.inr (.inr (71, 0)), .inl a1, .inl a2] σ none σ') : ∀ (n : Nat) (x1 : Int) (x2 : Int) (x3 : Int) (σ : mS) (σ' : mS), L_X12_goes_67 N cal n x1 x2 x3 σ = some σ' → mWW f (mw0 e) sc0 4 (101, [some (.inr (.inr (71, 0))), some (.inl x1), none, none], [], σ') → mWW f (mw0 e) sc0 4 (67, [some (.inr (.inr (71, 0))), some (.inl x1), some (.inl x2), some (.inl x3)], [], σ) := by
  intro n
  induction n with
  | zero =>
    intro x1 x2 x3 σ σ' h hK
    cases h
  | succ n IH =>
    intro x1 x2 x3 σ σ' h hK
    rw [L_X12_goes_67_s] at h
    refine m_blk C0 (pX12_ok rfl) kX12_goes_ok 41 1 (68, [some (.inr (.inr (71, 0))), some (.inl x1), some (.inl x2), some (.inl x3)], [.inl x3], σ) (Ps := []) rfl trivial ?_
    refine b_lt C0 kX12_goes_ok 42 (off := 33) (tgt := 101) rfl (by decide) (fun hb1176 => ?_) (fun hb1176 => ?_)
    · replace h := g_pos hb1176 h
      cases h
      refine m_mask [true, true, false, false] (ls' := [some (.inr (.inr (71, 0))), some (.inl x1), none, none]) rfl ?_
      exact hK
    · replace h := g_neg hb1176 h
      obtain ⟨hc, h⟩ := g_if h
      refine m_blk C0 (pX12_ok rfl) kX12_goes_ok 43 5 (78, [some (.inr (.inr (71, 0))), some (.inl x1), some (.inl x2), some (.inl x3)], [], (mup σ 88 0 x1.toNat x3)) (Ps := [0 ≤ x1 ∧ x1 < 40]) rfl (And.intro hc trivial) ?_
      refine m_blk C0 (pX12_ok rfl) kX12_goes_ok 48 12 (92, [some (.inr (.inr (71, 0))), some (.inl x1), some (.inl x2), some (.inl x3)], [.inl (mw (x2 - (mw (x3 * (σ 83 0 x1.toNat))))), .inl (mw (x1 + 1)), .inr (.inr (71, 0))], (mup σ 88 0 x1.toNat x3)) (Ps := [0 ≤ x1 ∧ x1 < 40]) rfl (And.intro hc trivial) ?_
      obtain ⟨s1174, hq1175, h⟩ := g_bind h
      refine c_V (rest := []) C0 hFr (hcal hq1175) lk_X12_253 (k_at kX12_goes_ok 60 rfl) rfl rfl rfl rfl ⟨_, _, rfl⟩ (Nat.le_refl _) (by decide) (Nat.le_of_ble_eq_true rfl) ?_
      refine m_blk C0 (pX12_ok rfl) kX12_goes_ok 61 2 (67, [some (.inr (.inr (71, 0))), some (.inl x1), some (.inl x2), some (.inl (mw (x3 + (-1))))], [], s1174) (Ps := []) rfl trivial ?_
      refine m_mask [true, true, true, true] (ls' := [some (.inr (.inr (71, 0))), some (.inl x1), some (.inl x2), some (.inl (mw (x3 + (-1))))]) rfl ?_
      exact IH _ _ _ _ _ h hK
set_option maxRecDepth 100000 in
set_option maxHeartbeats 4000000 in
theorem p_X12_goes_15 {e : mEv} (hG : mGeo (mw0 e) lw_kept) (N : Nat) {f : mFx} {d : Nat} (C0 : mCx f (mw0 e) sc0 cX12_goes 4 RX12 lw_kept) (hFr : mFr f (d + 1)) {cal : Int → Int → mS → Option (mS)} (hcal : ∀ {a1 : Int} {a2 : Int} {σ σ' : mS}, cal a1 a2 σ = some σ' → mMet f.2.1 (mw0 e) lw_kept d yX12_goes cX12_goes 4 none [.inr (.inr (71, 0)), .inl a1, .inl a2] σ none σ') : ∀ (n : Nat) (x3 : Int) (σ : mS) (σ' : mS), L_X12_goes_15 N cal n x3 σ = some σ' → mWW f (mw0 e) sc0 4 (47, [some (.inr (.inr (71, 0))), none, none, none], [], σ') → mWW f (mw0 e) sc0 4 (15, [some (.inr (.inr (71, 0))), none, none, some (.inl x3)], [], σ) := by
  intro n
  induction n with
  | zero =>
    intro x3 σ σ' h hK
    cases h
  | succ n IH =>
    intro x3 σ σ' h hK
    rw [L_X12_goes_15_s] at h
    refine m_blk C0 (pX12_ok rfl) kX12_goes_ok 9 2 (18, [some (.inr (.inr (71, 0))), none, none, some (.inl x3)], [.inl 40, .inl x3], σ) (Ps := []) rfl trivial ?_
    refine b_ige C0 kX12_goes_ok 11 (off := 29) (tgt := 47) rfl (by decide) (fun hb1179 => ?_) (fun hb1179 => ?_)
    · replace h := g_pos hb1179 h
      cases h
      refine m_mask [true, false, false, false] (ls' := [some (.inr (.inr (71, 0))), none, none, none]) rfl ?_
      exact hK
    · replace h := g_neg hb1179 h
      obtain ⟨hc, h⟩ := g_if h
      refine m_blk C0 (pX12_ok rfl) kX12_goes_ok 12 13 (41, [some (.inr (.inr (71, 0))), none, none, some (.inl x3)], [], (mup σ 85 0 ((mw ((mw ((40 : Int) * (σ 71 0 26))) + x3)).toNat) (σ 88 0 x3.toNat))) (Ps := [0 ≤ x3 ∧ x3 < 40, 0 ≤ (mw ((mw ((40 : Int) * (σ 71 0 26))) + x3)) ∧ (mw ((mw ((40 : Int) * (σ 71 0 26))) + x3)) < 16000]) rfl (And.intro hc.1 (And.intro hc.2 trivial)) ?_
      refine m_blk C0 (pX12_ok rfl) kX12_goes_ok 25 2 (15, [some (.inr (.inr (71, 0))), none, none, some (.inl (mw (x3 + 1)))], [], (mup σ 85 0 ((mw ((mw ((40 : Int) * (σ 71 0 26))) + x3)).toNat) (σ 88 0 x3.toNat))) (Ps := []) rfl trivial ?_
      refine m_mask [true, false, false, true] (ls' := [some (.inr (.inr (71, 0))), none, none, some (.inl (mw (x3 + 1)))]) rfl ?_
      exact IH _ _ _ h hK
set_option maxRecDepth 100000 in
set_option maxHeartbeats 4000000 in
theorem g_X12_goes_t {e : mEv} (hG : mGeo (mw0 e) lw_kept) (l : Launch) (N : Nat) {cal : Int → Int → mS → Option (mS)} {d : Nat} (hcal : ∀ {a1 : Int} {a2 : Int} {σ σ' : mS}, cal a1 a2 σ = some σ' → mMet l (mw0 e) lw_kept d yX12_goes cX12_goes 4 none [.inr (.inr (71, 0)), .inl a1, .inl a2] σ none σ') {a1 : Int} {a2 : Int} {σ σ' : mS} (h : g_X12_goes N cal a1 a2 σ = some σ') : mMet l (mw0 e) lw_kept (d + 1) yX12_goes cX12_goes 4 none [.inr (.inr (71, 0)), .inl a1, .inl a2] σ none σ' := by
  refine mMet_intro (plainFor_of_name (by decide)) hG (Nat.le_of_ble_eq_true rfl) (fun f hl hR C0 hFin => ?_)
  subst hl
  have hFr := mFr_of hR hFin
  unfold g_X12_goes at h
  show mWW f (mw0 e) sc0 4 (0, [some (.inr (.inr (71, 0))), some (.inl a1), some (.inl a2), none], [], σ)
  refine m_blk C0 (pX12_ok rfl) kX12_goes_ok 0 3 (5, [some (.inr (.inr (71, 0))), some (.inl a1), some (.inl a2), none], [.inl (σ 71 0 19), .inl a1], σ) (Ps := []) rfl trivial ?_
  refine b_ine C0 kX12_goes_ok 3 (off := 53) (tgt := 58) rfl (by decide) (fun hb1183 => ?_) (fun hb1183 => ?_)
  · replace h := g_neg hb1183 h
    obtain ⟨hc, h⟩ := g_if h
    refine m_blk C0 (pX12_ok rfl) kX12_goes_ok 34 7 (67, [some (.inr (.inr (71, 0))), some (.inl a1), some (.inl a2), some (.inl (o_div a2 (σ 83 0 a1.toNat)))], [], σ) (Ps := [0 ≤ a1 ∧ a1 < 40, ¬ (σ 83 0 a1.toNat) = 0]) rfl (And.intro hc.1 (And.intro hc.2 trivial)) ?_
    obtain ⟨s1177, hq1178, h⟩ := g_bind h
    refine m_mask [true, true, true, true] (ls' := [some (.inr (.inr (71, 0))), some (.inl a1), some (.inl a2), some (.inl (o_div a2 (σ 83 0 a1.toNat)))]) rfl ?_
    refine p_X12_goes_67 hG N C0 hFr hcal N _ _ _ _ _ hq1178 ?_
    obtain ⟨hc, h⟩ := g_if h
    refine m_blk C0 (pX12_ok rfl) kX12_goes_ok 63 5 (108, [some (.inr (.inr (71, 0))), some (.inl a1), none, none], [], (mup s1177 88 0 a1.toNat 0)) (Ps := [0 ≤ a1 ∧ a1 < 40]) rfl (And.intro hc trivial) ?_
    cases h
    exact m_vret C0 hFin (k_at kX12_goes_ok 68 rfl)
  · replace h := g_pos hb1183 h
    refine m_blk C0 (pX12_ok rfl) kX12_goes_ok 4 1 (9, [some (.inr (.inr (71, 0))), some (.inl a1), some (.inl a2), none], [.inl a2], σ) (Ps := []) rfl trivial ?_
    refine b_le C0 kX12_goes_ok 5 (off := 4) (tgt := 13) rfl (by decide) (fun hb1182 => ?_) (fun hb1182 => ?_)
    · replace h := g_pos hb1182 h
      refine m_blk C0 (pX12_ok rfl) kX12_goes_ok 7 2 (15, [some (.inr (.inr (71, 0))), some (.inl a1), some (.inl a2), some (.inl 0)], [], σ) (Ps := []) rfl trivial ?_
      obtain ⟨s1180, hq1181, h⟩ := g_bind h
      refine m_mask [true, false, false, true] (ls' := [some (.inr (.inr (71, 0))), none, none, some (.inl 0)]) rfl ?_
      refine p_X12_goes_15 hG N C0 hFr hcal N _ _ _ hq1181 ?_
      refine m_blk C0 (pX12_ok rfl) kX12_goes_ok 27 6 (57, [some (.inr (.inr (71, 0))), none, none, none], [], (mup s1180 71 0 26 (mw ((s1180 71 0 26) + 1)))) (Ps := []) rfl trivial ?_
      cases h
      exact m_vret C0 hFin (k_at kX12_goes_ok 33 rfl)
    · replace h := g_neg hb1182 h
      cases h
      exact m_vret C0 hFin (k_at kX12_goes_ok 6 rfl)
theorem F_X12_goes_t {e : mEv} (hG : mGeo (mw0 e) lw_kept) (l : Launch) (N : Nat) : ∀ (d : Nat) {a1 : Int} {a2 : Int} {σ σ' : mS}, F_X12_goes N d a1 a2 σ = some σ' → mMet l (mw0 e) lw_kept d yX12_goes cX12_goes 4 none [.inr (.inr (71, 0)), .inl a1, .inl a2] σ none σ' := by
  intro d
  induction d with
  | zero => intro a1 a2 σ σ' h; cases h
  | succ d IH =>
    intro a1 a2 σ σ' h
    rw [F_X12_goes_s] at h
    exact g_X12_goes_t hG l N (fun h => IH h) h
theorem t_X12_goes {e : mEv} (hG : mGeo (mw0 e) lw_kept) (l : Launch) (N : Nat) {a1 : Int} {a2 : Int} {σ σ' : mS} (h : f_X12_goes N a1 a2 σ = some σ') : mMet l (mw0 e) lw_kept 10 yX12_goes cX12_goes 4 none [.inr (.inr (71, 0)), .inl a1, .inl a2] σ none σ' := F_X12_goes_t hG l N 10 h
set_option maxRecDepth 100000 in
set_option maxHeartbeats 4000000 in
theorem p_X12_list_7 {e : mEv} (hG : mGeo (mw0 e) lw_kept) (N : Nat) {f : mFx} (C0 : mCx f (mw0 e) sc0 cX12_list 3 RX12 lw_kept) (hFr : mFr f 11) : ∀ (n : Nat) (x1 : Int) (x2 : Int) (σ : mS) (σ' : mS), L_X12_list_7 N n x1 x2 σ = some σ' → mWW f (mw0 e) sc0 3 (26, [some (.inr (.inr (71, 0))), some (.inl x1), none], [], σ') → mWW f (mw0 e) sc0 3 (7, [some (.inr (.inr (71, 0))), some (.inl x1), some (.inl x2)], [], σ) := by
  intro n
  induction n with
  | zero =>
    intro x1 x2 σ σ' h hK
    cases h
  | succ n IH =>
    intro x1 x2 σ σ' h hK
    rw [L_X12_list_7_s] at h
    refine m_blk C0 (pX12_ok rfl) kX12_list_ok 5 2 (10, [some (.inr (.inr (71, 0))), some (.inl x1), some (.inl x2)], [.inl 40, .inl x2], σ) (Ps := []) rfl trivial ?_
    refine b_ige C0 kX12_list_ok 7 (off := 16) (tgt := 26) rfl (by decide) (fun hb1172 => ?_) (fun hb1172 => ?_)
    · replace h := g_pos hb1172 h
      cases h
      refine m_mask [true, true, false] (ls' := [some (.inr (.inr (71, 0))), some (.inl x1), none]) rfl ?_
      exact hK
    · replace h := g_neg hb1172 h
      obtain ⟨hc, h⟩ := g_if h
      refine m_blk C0 (pX12_ok rfl) kX12_list_ok 8 5 (20, [some (.inr (.inr (71, 0))), some (.inl x1), some (.inl x2)], [], (mup σ 88 0 x2.toNat 0)) (Ps := [0 ≤ x2 ∧ x2 < 40]) rfl (And.intro hc trivial) ?_
      refine m_blk C0 (pX12_ok rfl) kX12_list_ok 13 2 (7, [some (.inr (.inr (71, 0))), some (.inl x1), some (.inl (mw (x2 + 1)))], [], (mup σ 88 0 x2.toNat 0)) (Ps := []) rfl trivial ?_
      refine m_mask [true, true, true] (ls' := [some (.inr (.inr (71, 0))), some (.inl x1), some (.inl (mw (x2 + 1)))]) rfl ?_
      exact IH _ _ _ _ h hK
set_option maxRecDepth 100000 in
set_option maxHeartbeats 4000000 in
theorem t_X12_list {e : mEv} (hG : mGeo (mw0 e) lw_kept) (l : Launch) (N : Nat) {a1 : Int} {σ σ' : mS} (h : f_X12_list N a1 σ = some σ') : mMet l (mw0 e) lw_kept 11 yX12_list cX12_list 3 none [.inr (.inr (71, 0)), .inl a1] σ none σ' := by
  refine mMet_intro (plainFor_of_name (by decide)) hG (Nat.le_of_ble_eq_true rfl) (fun f hl hR C0 hFin => ?_)
  subst hl
  have hFr := mFr_of hR hFin
  unfold f_X12_list at h
  show mWW f (mw0 e) sc0 3 (0, [some (.inr (.inr (71, 0))), some (.inl a1), none], [], σ)
  refine m_blk C0 (pX12_ok rfl) kX12_list_ok 0 3 (5, [some (.inr (.inr (71, 0))), some (.inl a1), none], [], (mup σ 71 0 26 0)) (Ps := []) rfl trivial ?_
  refine m_blk C0 (pX12_ok rfl) kX12_list_ok 3 2 (7, [some (.inr (.inr (71, 0))), some (.inl a1), some (.inl 0)], [], (mup σ 71 0 26 0)) (Ps := []) rfl trivial ?_
  obtain ⟨s1173, hq1186, h⟩ := g_bind h
  refine m_mask [true, true, true] (ls' := [some (.inr (.inr (71, 0))), some (.inl a1), some (.inl 0)]) rfl ?_
  refine p_X12_list_7 hG N C0 hFr N _ _ _ _ hq1186 ?_
  refine m_blk C0 (pX12_ok rfl) kX12_list_ok 15 3 (29, [some (.inr (.inr (71, 0))), some (.inl a1), none], [.inl a1, .inl 0, .inr (.inr (71, 0))], s1173) (Ps := []) rfl trivial ?_
  obtain ⟨s1184, hq1185, h⟩ := g_bind h
  refine c_V (rest := []) C0 hFr (t_X12_goes hG f.2.1 N hq1185) lk_X12_253 (k_at kX12_list_ok 18 rfl) rfl rfl rfl rfl ⟨_, _, rfl⟩ (by decide) (by decide) (Nat.le_of_ble_eq_true rfl) ?_
  cases h
  exact m_vret C0 hFin (k_at kX12_list_ok 19 rfl)
set_option maxRecDepth 100000 in
set_option maxHeartbeats 4000000 in
theorem p_X12_clear_2 {e : mEv} (hG : mGeo (mw0 e) lw_kept) (N : Nat) {f : mFx} (C0 : mCx f (mw0 e) sc0 cX12_clear 3 RX12 lw_kept) (hFr : mFr f 0) : ∀ (n : Nat) (x1 : Int) (x2 : Int) (σ : mS) (σ' : mS), L_X12_clear_2 N n x1 x2 σ = some σ' → mWW f (mw0 e) sc0 3 (28, [none, none, none], [], σ') → mWW f (mw0 e) sc0 3 (2, [some (.inr (.inr (71, 0))), some (.inl x1), some (.inl x2)], [], σ) := by
  intro n
  induction n with
  | zero =>
    intro x1 x2 σ σ' h hK
    cases h
  | succ n IH =>
    intro x1 x2 σ σ' h hK
    rw [L_X12_clear_2_s] at h
    refine m_blk C0 (pX12_ok rfl) kX12_clear_ok 2 2 (6, [some (.inr (.inr (71, 0))), some (.inl x1), some (.inl x2)], [.inl 729, .inl x2], σ) (Ps := []) rfl trivial ?_
    refine b_ige C0 kX12_clear_ok 4 (off := 22) (tgt := 28) rfl (by decide) (fun hb1188 => ?_) (fun hb1188 => ?_)
    · replace h := g_pos hb1188 h
      cases h
      refine m_mask [false, false, false] (ls' := [none, none, none]) rfl ?_
      exact hK
    · replace h := g_neg hb1188 h
      obtain ⟨hc, h⟩ := g_if h
      refine m_blk C0 (pX12_ok rfl) kX12_clear_ok 5 9 (22, [some (.inr (.inr (71, 0))), some (.inl x1), some (.inl x2)], [], (mup σ 81 0 ((mw ((mw ((729 : Int) * x1)) + x2)).toNat) 0)) (Ps := [0 ≤ (mw ((mw ((729 : Int) * x1)) + x2)) ∧ (mw ((mw ((729 : Int) * x1)) + x2)) < 7290]) rfl (And.intro hc trivial) ?_
      refine m_blk C0 (pX12_ok rfl) kX12_clear_ok 14 2 (2, [some (.inr (.inr (71, 0))), some (.inl x1), some (.inl (mw (x2 + 1)))], [], (mup σ 81 0 ((mw ((mw ((729 : Int) * x1)) + x2)).toNat) 0)) (Ps := []) rfl trivial ?_
      refine m_mask [true, true, true] (ls' := [some (.inr (.inr (71, 0))), some (.inl x1), some (.inl (mw (x2 + 1)))]) rfl ?_
      exact IH _ _ _ _ h hK
set_option maxRecDepth 100000 in
set_option maxHeartbeats 4000000 in
theorem t_X12_clear {e : mEv} (hG : mGeo (mw0 e) lw_kept) (l : Launch) (N : Nat) {a1 : Int} {σ σ' : mS} (h : f_X12_clear N a1 σ = some σ') : mMet l (mw0 e) lw_kept 0 yX12_clear cX12_clear 3 none [.inr (.inr (71, 0)), .inl a1] σ none σ' := by
  refine mMet_intro (plainFor_of_name (by decide)) hG (Nat.le_of_ble_eq_true rfl) (fun f hl hR C0 hFin => ?_)
  subst hl
  have hFr := mFr_of hR hFin
  unfold f_X12_clear at h
  show mWW f (mw0 e) sc0 3 (0, [some (.inr (.inr (71, 0))), some (.inl a1), none], [], σ)
  refine m_blk C0 (pX12_ok rfl) kX12_clear_ok 0 2 (2, [some (.inr (.inr (71, 0))), some (.inl a1), some (.inl 0)], [], σ) (Ps := []) rfl trivial ?_
  obtain ⟨s1189, hq1190, h⟩ := g_bind h
  refine m_mask [true, true, true] (ls' := [some (.inr (.inr (71, 0))), some (.inl a1), some (.inl 0)]) rfl ?_
  refine p_X12_clear_2 hG N C0 hFr N _ _ _ _ hq1190 ?_
  cases h
  exact m_vret C0 hFin (k_at kX12_clear_ok 16 rfl)
set_option maxRecDepth 100000 in
set_option maxHeartbeats 4000000 in
theorem t_X12_left {e : mEv} (hG : mGeo (mw0 e) lw_kept) (l : Launch) (N : Nat) {a0 : Int} {σ σ' : mS} {v : Int} (h : f_X12_left N a0 σ = some (v, σ')) : mMet l (mw0 e) lw_kept 0 yX12_left cX12_left 3 (some .int) [.inr (.inl a0)] σ (some (.inl v)) σ' := by
  refine mMet_intro (plainFor_of_name (by decide)) hG (Nat.le_of_ble_eq_true rfl) (fun f hl hR C0 hFin => ?_)
  subst hl
  have hFr := mFr_of hR hFin
  unfold f_X12_left at h
  show mWW f (mw0 e) sc0 3 (0, [some (.inr (.inl a0)), none, none], [], σ)
  refine m_blk C0 (pX12_ok rfl) kX12_left_ok 0 6 (8, [some (.inr (.inl a0)), none, some (.inl (mw (o_lrem a0 32003)))], [.inl (mw (o_lrem a0 32003))], σ) (Ps := [¬ (32003 : Int) = 0]) rfl (And.intro (by decide) trivial) ?_
  refine b_ge C0 kX12_left_ok 6 (off := 11) (tgt := 19) rfl (by decide) (fun hb1193 => ?_) (fun hb1193 => ?_)
  · replace h := g_pos hb1193 h
    refine m_blk C0 (pX12_ok rfl) kX12_left_ok 11 1 (20, [some (.inr (.inl a0)), none, some (.inl (mw (o_lrem a0 32003)))], [.inl (mw (o_lrem a0 32003))], σ) (Ps := []) rfl trivial ?_
    cases h
    exact m_iret C0 hFin (k_at kX12_left_ok 12 rfl) (Or.inl rfl)
  · replace h := g_neg hb1193 h
    refine m_blk C0 (pX12_ok rfl) kX12_left_ok 7 4 (20, [some (.inr (.inl a0)), none, some (.inl (mw (o_lrem a0 32003)))], [.inl (mw ((mw (o_lrem a0 32003)) + 32003))], σ) (Ps := []) rfl trivial ?_
    cases h
    exact m_iret C0 hFin (k_at kX12_left_ok 12 rfl) (Or.inl rfl)
set_option maxRecDepth 100000 in
set_option maxHeartbeats 4000000 in
theorem p_X12_timesFew_29 {e : mEv} (hG : mGeo (mw0 e) lw_kept) (N : Nat) {f : mFx} (C0 : mCx f (mw0 e) sc0 cX12_timesFew 7 RX12 lw_kept) (hFr : mFr f 1) : ∀ (n : Nat) (x1 : Int) (x2 : Int) (x3 : Int) (x4 : Int) (σ : mS) (σ' : mS), L_X12_timesFew_29 N n x1 x2 x3 x4 σ = some σ' → mWW f (mw0 e) sc0 7 (105, [some (.inr (.inr (71, 0))), some (.inl x1), some (.inl x2), none, none, none, none], [], σ') → mWW f (mw0 e) sc0 7 (29, [some (.inr (.inr (71, 0))), some (.inl x1), some (.inl x2), some (.inl x3), some (.inl x4), none, none], [], σ) := by
  intro n
  induction n with
  | zero =>
    intro x1 x2 x3 x4 σ σ' h hK
    cases h
  | succ n IH =>
    intro x1 x2 x3 x4 σ σ' h hK
    rw [L_X12_timesFew_29_s] at h
    refine m_blk C0 (pX12_ok rfl) kX12_timesFew_ok 17 2 (34, [some (.inr (.inr (71, 0))), some (.inl x1), some (.inl x2), some (.inl x3), some (.inl x4), none, none], [.inl 729, .inl x4], σ) (Ps := []) rfl trivial ?_
    refine b_ige C0 kX12_timesFew_ok 19 (off := 71) (tgt := 105) rfl (by decide) (fun hb1199 => ?_) (fun hb1199 => ?_)
    · replace h := g_pos hb1199 h
      cases h
      refine m_mask [true, true, true, false, false, false, false] (ls' := [some (.inr (.inr (71, 0))), some (.inl x1), some (.inl x2), none, none, none, none]) rfl ?_
      exact hK
    · replace h := g_neg hb1199 h
      refine m_blk C0 (pX12_ok rfl) kX12_timesFew_ok 20 1 (38, [some (.inr (.inr (71, 0))), some (.inl x1), some (.inl x2), some (.inl x3), some (.inl x4), none, none], [.inl x3], σ) (Ps := []) rfl trivial ?_
      refine b_eq C0 kX12_timesFew_ok 21 (off := 67) (tgt := 105) rfl (by decide) (fun hb1198 => ?_) (fun hb1198 => ?_)
      · replace h := g_pos hb1198 h
        cases h
        refine m_mask [true, true, true, false, false, false, false] (ls' := [some (.inr (.inr (71, 0))), some (.inl x1), some (.inl x2), none, none, none, none]) rfl ?_
        exact hK
      · replace h := g_neg hb1198 h
        obtain ⟨hc, h⟩ := g_if h
        refine m_blk C0 (pX12_ok rfl) kX12_timesFew_ok 22 10 (58, [some (.inr (.inr (71, 0))), some (.inl x1), some (.inl x2), some (.inl x3), some (.inl x4), some (.inl (σ 84 0 ((mw ((mw ((729 : Int) * x1)) + x4)).toNat))), none], [.inl (σ 84 0 ((mw ((mw ((729 : Int) * x1)) + x4)).toNat))], σ) (Ps := [0 ≤ (mw ((mw ((729 : Int) * x1)) + x4)) ∧ (mw ((mw ((729 : Int) * x1)) + x4)) < 29160]) rfl (And.intro hc trivial) ?_
        refine b_ne C0 kX12_timesFew_ok 32 (off := 6) (tgt := 64) rfl (by decide) (fun hb1197 => ?_) (fun hb1197 => ?_)
        · replace h := g_neg hb1197 h
          obtain ⟨hc, h⟩ := g_if h
          refine m_blk C0 (pX12_ok rfl) kX12_timesFew_ok 34 16 (90, [some (.inr (.inr (71, 0))), some (.inl x1), some (.inl x2), some (.inl x3), some (.inl x4), some (.inl (σ 84 0 ((mw ((mw ((729 : Int) * x1)) + x4)).toNat))), some (.inl (mw ((mw ((5832 : Int) + x2)) + x4)))], [.inr (.inl x3), .inr (.inl (σ 81 0 ((mw ((mw ((5832 : Int) + x2)) + x4)).toNat))), .inl (mw ((mw ((5832 : Int) + x2)) + x4)), .inr (.inr (81, 0))], σ) (Ps := [0 ≤ (mw ((mw ((5832 : Int) + x2)) + x4)) ∧ (mw ((mw ((5832 : Int) + x2)) + x4)) < 7290]) rfl (And.intro hc trivial) ?_
          refine m_blk C0 (pX12_ok rfl) kX12_timesFew_ok 50 4 (95, [some (.inr (.inr (71, 0))), some (.inl x1), some (.inl x2), some (.inl x3), some (.inl x4), some (.inl (σ 84 0 ((mw ((mw ((729 : Int) * x1)) + x4)).toNat))), some (.inl (mw ((mw ((5832 : Int) + x2)) + x4)))], [.inr (.inl (mx ((σ 81 0 ((mw ((mw ((5832 : Int) + x2)) + x4)).toNat)) + (mx (x3 * (σ 84 0 ((mw ((mw ((729 : Int) * x1)) + x4)).toNat))))))), .inl (mw ((mw ((5832 : Int) + x2)) + x4)), .inr (.inr (81, 0))], σ) (Ps := []) rfl trivial ?_
          obtain ⟨⟨v1195, s1194⟩, hq1196, h⟩ := g_bind h
          refine c_S (rest := [.inl (mw ((mw ((5832 : Int) + x2)) + x4)), .inr (.inr (81, 0))]) C0 hFr (t_X12_left hG f.2.1 N hq1196) lk_X12_190 (k_at kX12_timesFew_ok 54 rfl) rfl rfl rfl (by decide) (by decide) (Nat.le_of_ble_eq_true rfl) ?_
          obtain ⟨hc, h⟩ := g_if h
          refine m_blk C0 (pX12_ok rfl) kX12_timesFew_ok 55 1 (99, [some (.inr (.inr (71, 0))), some (.inl x1), some (.inl x2), some (.inl x3), some (.inl x4), some (.inl (σ 84 0 ((mw ((mw ((729 : Int) * x1)) + x4)).toNat))), some (.inl (mw ((mw ((5832 : Int) + x2)) + x4)))], [], (mup s1194 81 0 ((mw ((mw ((5832 : Int) + x2)) + x4)).toNat) v1195)) (Ps := [0 ≤ (mw ((mw ((5832 : Int) + x2)) + x4)) ∧ (mw ((mw ((5832 : Int) + x2)) + x4)) < 7290]) rfl (And.intro hc trivial) ?_
          refine m_blk C0 (pX12_ok rfl) kX12_timesFew_ok 56 2 (29, [some (.inr (.inr (71, 0))), some (.inl x1), some (.inl x2), some (.inl x3), some (.inl (mw (x4 + 1))), some (.inl (σ 84 0 ((mw ((mw ((729 : Int) * x1)) + x4)).toNat))), some (.inl (mw ((mw ((5832 : Int) + x2)) + x4)))], [], (mup s1194 81 0 ((mw ((mw ((5832 : Int) + x2)) + x4)).toNat) v1195)) (Ps := []) rfl trivial ?_
          refine m_mask [true, true, true, true, true, false, false] (ls' := [some (.inr (.inr (71, 0))), some (.inl x1), some (.inl x2), some (.inl x3), some (.inl (mw (x4 + 1))), none, none]) rfl ?_
          exact IH _ _ _ _ _ _ h hK
        · replace h := g_pos hb1197 h
          refine m_blk C0 (pX12_ok rfl) kX12_timesFew_ok 33 1 (99, [some (.inr (.inr (71, 0))), some (.inl x1), some (.inl x2), some (.inl x3), some (.inl x4), some (.inl (σ 84 0 ((mw ((mw ((729 : Int) * x1)) + x4)).toNat))), none], [], σ) (Ps := []) rfl trivial ?_
          refine m_blk C0 (pX12_ok rfl) kX12_timesFew_ok 56 2 (29, [some (.inr (.inr (71, 0))), some (.inl x1), some (.inl x2), some (.inl x3), some (.inl (mw (x4 + 1))), some (.inl (σ 84 0 ((mw ((mw ((729 : Int) * x1)) + x4)).toNat))), none], [], σ) (Ps := []) rfl trivial ?_
          refine m_mask [true, true, true, true, true, false, false] (ls' := [some (.inr (.inr (71, 0))), some (.inl x1), some (.inl x2), some (.inl x3), some (.inl (mw (x4 + 1))), none, none]) rfl ?_
          exact IH _ _ _ _ _ _ h hK
set_option maxRecDepth 100000 in
set_option maxHeartbeats 4000000 in
theorem p_X12_timesFew_8 {e : mEv} (hG : mGeo (mw0 e) lw_kept) (N : Nat) {f : mFx} (C0 : mCx f (mw0 e) sc0 cX12_timesFew 7 RX12 lw_kept) (hFr : mFr f 1) : ∀ (n : Nat) (x1 : Int) (x2 : Int) (σ : mS) (σ' : mS), L_X12_timesFew_8 N n x1 x2 σ = some σ' → mWW f (mw0 e) sc0 7 (111, [none, none, none, none, none, none, none], [], σ') → mWW f (mw0 e) sc0 7 (8, [some (.inr (.inr (71, 0))), some (.inl x1), some (.inl x2), none, none, none, none], [], σ) := by
  intro n
  induction n with
  | zero =>
    intro x1 x2 σ σ' h hK
    cases h
  | succ n IH =>
    intro x1 x2 σ σ' h hK
    rw [L_X12_timesFew_8_s] at h
    refine m_blk C0 (pX12_ok rfl) kX12_timesFew_ok 5 2 (12, [some (.inr (.inr (71, 0))), some (.inl x1), some (.inl x2), none, none, none, none], [.inl 729, .inl x2], σ) (Ps := []) rfl trivial ?_
    refine b_ige C0 kX12_timesFew_ok 7 (off := 99) (tgt := 111) rfl (by decide) (fun hb1202 => ?_) (fun hb1202 => ?_)
    · replace h := g_pos hb1202 h
      cases h
      refine m_mask [false, false, false, false, false, false, false] (ls' := [none, none, none, none, none, none, none]) rfl ?_
      exact hK
    · replace h := g_neg hb1202 h
      obtain ⟨hc, h⟩ := g_if h
      refine m_blk C0 (pX12_ok rfl) kX12_timesFew_ok 8 9 (29, [some (.inr (.inr (71, 0))), some (.inl x1), some (.inl x2), some (.inl (σ 81 0 ((mw ((6561 : Int) + x2)).toNat))), some (.inl 0), none, none], [], σ) (Ps := [0 ≤ (mw ((6561 : Int) + x2)) ∧ (mw ((6561 : Int) + x2)) < 7290]) rfl (And.intro hc trivial) ?_
      obtain ⟨s1200, hq1201, h⟩ := g_bind h
      refine m_mask [true, true, true, true, true, false, false] (ls' := [some (.inr (.inr (71, 0))), some (.inl x1), some (.inl x2), some (.inl (σ 81 0 ((mw ((6561 : Int) + x2)).toNat))), some (.inl 0), none, none]) rfl ?_
      refine p_X12_timesFew_29 hG N C0 hFr N _ _ _ _ _ _ hq1201 ?_
      refine m_blk C0 (pX12_ok rfl) kX12_timesFew_ok 58 2 (8, [some (.inr (.inr (71, 0))), some (.inl x1), some (.inl (mw (x2 + 1))), none, none, none, none], [], s1200) (Ps := []) rfl trivial ?_
      refine m_mask [true, true, true, false, false, false, false] (ls' := [some (.inr (.inr (71, 0))), some (.inl x1), some (.inl (mw (x2 + 1))), none, none, none, none]) rfl ?_
      exact IH _ _ _ _ h hK
set_option maxRecDepth 100000 in
set_option maxHeartbeats 4000000 in
theorem t_X12_timesFew {e : mEv} (hG : mGeo (mw0 e) lw_kept) (l : Launch) (N : Nat) {a1 : Int} {σ σ' : mS} (h : f_X12_timesFew N a1 σ = some σ') : mMet l (mw0 e) lw_kept 1 yX12_timesFew cX12_timesFew 7 none [.inr (.inr (71, 0)), .inl a1] σ none σ' := by
  refine mMet_intro (plainFor_of_name (by decide)) hG (Nat.le_of_ble_eq_true rfl) (fun f hl hR C0 hFin => ?_)
  subst hl
  have hFr := mFr_of hR hFin
  unfold f_X12_timesFew at h
  show mWW f (mw0 e) sc0 7 (0, [some (.inr (.inr (71, 0))), some (.inl a1), none, none, none, none, none], [], σ)
  refine m_blk C0 (pX12_ok rfl) kX12_timesFew_ok 0 2 (3, [some (.inr (.inr (71, 0))), some (.inl a1), none, none, none, none, none], [.inl 8, .inr (.inr (71, 0))], σ) (Ps := []) rfl trivial ?_
  obtain ⟨s1192, hq1205, h⟩ := g_bind h
  refine c_V (rest := []) C0 hFr (t_X12_clear hG f.2.1 N hq1205) lk_X12_200 (k_at kX12_timesFew_ok 2 rfl) rfl rfl rfl rfl ⟨_, _, rfl⟩ (by decide) (by decide) (Nat.le_of_ble_eq_true rfl) ?_
  refine m_blk C0 (pX12_ok rfl) kX12_timesFew_ok 3 2 (8, [some (.inr (.inr (71, 0))), some (.inl a1), some (.inl 0), none, none, none, none], [], s1192) (Ps := []) rfl trivial ?_
  obtain ⟨s1203, hq1204, h⟩ := g_bind h
  refine m_mask [true, true, true, false, false, false, false] (ls' := [some (.inr (.inr (71, 0))), some (.inl a1), some (.inl 0), none, none, none, none]) rfl ?_
  refine p_X12_timesFew_8 hG N C0 hFr N _ _ _ _ hq1204 ?_
  cases h
  exact m_vret C0 hFin (k_at kX12_timesFew_ok 60 rfl)
set_option maxRecDepth 100000 in
set_option maxHeartbeats 4000000 in
theorem p_X12_copy_2 {e : mEv} (hG : mGeo (mw0 e) lw_kept) (N : Nat) {f : mFx} (C0 : mCx f (mw0 e) sc0 cX12_copy 4 RX12 lw_kept) (hFr : mFr f 0) : ∀ (n : Nat) (x1 : Int) (x2 : Int) (x3 : Int) (σ : mS) (σ' : mS), L_X12_copy_2 N n x1 x2 x3 σ = some σ' → mWW f (mw0 e) sc0 4 (39, [none, none, none, none], [], σ') → mWW f (mw0 e) sc0 4 (2, [some (.inr (.inr (71, 0))), some (.inl x1), some (.inl x2), some (.inl x3)], [], σ) := by
  intro n
  induction n with
  | zero =>
    intro x1 x2 x3 σ σ' h hK
    cases h
  | succ n IH =>
    intro x1 x2 x3 σ σ' h hK
    rw [L_X12_copy_2_s] at h
    refine m_blk C0 (pX12_ok rfl) kX12_copy_ok 2 2 (6, [some (.inr (.inr (71, 0))), some (.inl x1), some (.inl x2), some (.inl x3)], [.inl 729, .inl x3], σ) (Ps := []) rfl trivial ?_
    refine b_ige C0 kX12_copy_ok 4 (off := 33) (tgt := 39) rfl (by decide) (fun hb1207 => ?_) (fun hb1207 => ?_)
    · replace h := g_pos hb1207 h
      cases h
      refine m_mask [false, false, false, false] (ls' := [none, none, none, none]) rfl ?_
      exact hK
    · replace h := g_neg hb1207 h
      obtain ⟨hc, h⟩ := g_if h
      refine m_blk C0 (pX12_ok rfl) kX12_copy_ok 5 16 (33, [some (.inr (.inr (71, 0))), some (.inl x1), some (.inl x2), some (.inl x3)], [], (mup σ 81 0 ((mw ((mw ((729 : Int) * x2)) + x3)).toNat) (σ 81 0 ((mw ((mw ((729 : Int) * x1)) + x3)).toNat)))) (Ps := [0 ≤ (mw ((mw ((729 : Int) * x1)) + x3)) ∧ (mw ((mw ((729 : Int) * x1)) + x3)) < 7290, 0 ≤ (mw ((mw ((729 : Int) * x2)) + x3)) ∧ (mw ((mw ((729 : Int) * x2)) + x3)) < 7290]) rfl (And.intro hc.1 (And.intro hc.2 trivial)) ?_
      refine m_blk C0 (pX12_ok rfl) kX12_copy_ok 21 2 (2, [some (.inr (.inr (71, 0))), some (.inl x1), some (.inl x2), some (.inl (mw (x3 + 1)))], [], (mup σ 81 0 ((mw ((mw ((729 : Int) * x2)) + x3)).toNat) (σ 81 0 ((mw ((mw ((729 : Int) * x1)) + x3)).toNat)))) (Ps := []) rfl trivial ?_
      refine m_mask [true, true, true, true] (ls' := [some (.inr (.inr (71, 0))), some (.inl x1), some (.inl x2), some (.inl (mw (x3 + 1)))]) rfl ?_
      exact IH _ _ _ _ _ h hK
set_option maxRecDepth 100000 in
set_option maxHeartbeats 4000000 in
theorem t_X12_copy {e : mEv} (hG : mGeo (mw0 e) lw_kept) (l : Launch) (N : Nat) {a1 : Int} {a2 : Int} {σ σ' : mS} (h : f_X12_copy N a1 a2 σ = some σ') : mMet l (mw0 e) lw_kept 0 yX12_copy cX12_copy 4 none [.inr (.inr (71, 0)), .inl a1, .inl a2] σ none σ' := by
  refine mMet_intro (plainFor_of_name (by decide)) hG (Nat.le_of_ble_eq_true rfl) (fun f hl hR C0 hFin => ?_)
  subst hl
  have hFr := mFr_of hR hFin
  unfold f_X12_copy at h
  show mWW f (mw0 e) sc0 4 (0, [some (.inr (.inr (71, 0))), some (.inl a1), some (.inl a2), none], [], σ)
  refine m_blk C0 (pX12_ok rfl) kX12_copy_ok 0 2 (2, [some (.inr (.inr (71, 0))), some (.inl a1), some (.inl a2), some (.inl 0)], [], σ) (Ps := []) rfl trivial ?_
  obtain ⟨s1208, hq1209, h⟩ := g_bind h
  refine m_mask [true, true, true, true] (ls' := [some (.inr (.inr (71, 0))), some (.inl a1), some (.inl a2), some (.inl 0)]) rfl ?_
  refine p_X12_copy_2 hG N C0 hFr N _ _ _ _ _ hq1209 ?_
  cases h
  exact m_vret C0 hFin (k_at kX12_copy_ok 23 rfl)
set_option maxRecDepth 100000 in
set_option maxHeartbeats 4000000 in
theorem p_X12_works_27 {e : mEv} (hG : mGeo (mw0 e) lw_kept) (N : Nat) {f : mFx} (C0 : mCx f (mw0 e) sc0 cX12_works 4 RX12 lw_kept) (hFr : mFr f 2) : ∀ (n : Nat) (x1 : Int) (x2 : Int) (x3 : Int) (σ : mS) (σ' : mS), L_X12_works_27 N n x1 x2 x3 σ = some σ' → mWW f (mw0 e) sc0 4 (61, [some (.inr (.inr (71, 0))), some (.inl x1), some (.inl x2), none], [], σ') → mWW f (mw0 e) sc0 4 (27, [some (.inr (.inr (71, 0))), some (.inl x1), some (.inl x2), some (.inl x3)], [], σ) := by
  intro n
  induction n with
  | zero =>
    intro x1 x2 x3 σ σ' h hK
    cases h
  | succ n IH =>
    intro x1 x2 x3 σ σ' h hK
    rw [L_X12_works_27_s] at h
    obtain ⟨hc, h⟩ := g_if h
    refine m_blk C0 (pX12_ok rfl) kX12_works_ok 16 9 (39, [some (.inr (.inr (71, 0))), some (.inl x1), some (.inl x2), some (.inl x3)], [.inl (σ 85 0 ((mw ((mw ((40 : Int) * x1)) + x2)).toNat)), .inl x3], σ) (Ps := [0 ≤ (mw ((mw ((40 : Int) * x1)) + x2)) ∧ (mw ((mw ((40 : Int) * x1)) + x2)) < 16000]) rfl (And.intro hc trivial) ?_
    refine b_ige C0 kX12_works_ok 25 (off := 22) (tgt := 61) rfl (by decide) (fun hb1213 => ?_) (fun hb1213 => ?_)
    · replace h := g_pos hb1213 h
      cases h
      refine m_mask [true, true, true, false] (ls' := [some (.inr (.inr (71, 0))), some (.inl x1), some (.inl x2), none]) rfl ?_
      exact hK
    · replace h := g_neg hb1213 h
      refine m_blk C0 (pX12_ok rfl) kX12_works_ok 26 2 (44, [some (.inr (.inr (71, 0))), some (.inl x1), some (.inl x2), some (.inl x3)], [.inl x2, .inr (.inr (71, 0))], σ) (Ps := []) rfl trivial ?_
      obtain ⟨s1206, hq1212, h⟩ := g_bind h
      refine c_V (rest := []) C0 hFr (t_X12_timesFew hG f.2.1 N hq1212) lk_X12_256 (k_at kX12_works_ok 28 rfl) rfl rfl rfl rfl ⟨_, _, rfl⟩ (by decide) (by decide) (Nat.le_of_ble_eq_true rfl) ?_
      refine m_blk C0 (pX12_ok rfl) kX12_works_ok 29 3 (52, [some (.inr (.inr (71, 0))), some (.inl x1), some (.inl x2), some (.inl x3)], [.inl 9, .inl 8, .inr (.inr (71, 0))], s1206) (Ps := []) rfl trivial ?_
      obtain ⟨s1210, hq1211, h⟩ := g_bind h
      refine c_V (rest := []) C0 hFr (t_X12_copy hG f.2.1 N hq1211) lk_X12_208 (k_at kX12_works_ok 32 rfl) rfl rfl rfl rfl ⟨_, _, rfl⟩ (by decide) (by decide) (Nat.le_of_ble_eq_true rfl) ?_
      refine m_blk C0 (pX12_ok rfl) kX12_works_ok 33 2 (27, [some (.inr (.inr (71, 0))), some (.inl x1), some (.inl x2), some (.inl (mw (x3 + 1)))], [], s1210) (Ps := []) rfl trivial ?_
      refine m_mask [true, true, true, true] (ls' := [some (.inr (.inr (71, 0))), some (.inl x1), some (.inl x2), some (.inl (mw (x3 + 1)))]) rfl ?_
      exact IH _ _ _ _ _ h hK
set_option maxRecDepth 100000 in
set_option maxHeartbeats 4000000 in
theorem p_X12_works_17 {e : mEv} (hG : mGeo (mw0 e) lw_kept) (N : Nat) {f : mFx} (C0 : mCx f (mw0 e) sc0 cX12_works 4 RX12 lw_kept) (hFr : mFr f 2) : ∀ (n : Nat) (x1 : Int) (x2 : Int) (σ : mS) (σ' : mS), L_X12_works_17 N n x1 x2 σ = some σ' → mWW f (mw0 e) sc0 4 (67, [none, none, none, none], [], σ') → mWW f (mw0 e) sc0 4 (17, [some (.inr (.inr (71, 0))), some (.inl x1), some (.inl x2), none], [], σ) := by
  intro n
  induction n with
  | zero =>
    intro x1 x2 σ σ' h hK
    cases h
  | succ n IH =>
    intro x1 x2 σ σ' h hK
    rw [L_X12_works_17_s] at h
    refine m_blk C0 (pX12_ok rfl) kX12_works_ok 10 3 (22, [some (.inr (.inr (71, 0))), some (.inl x1), some (.inl x2), none], [.inl (σ 71 0 19), .inl x2], σ) (Ps := []) rfl trivial ?_
    refine b_ige C0 kX12_works_ok 13 (off := 45) (tgt := 67) rfl (by decide) (fun hb1216 => ?_) (fun hb1216 => ?_)
    · replace h := g_pos hb1216 h
      cases h
      refine m_mask [false, false, false, false] (ls' := [none, none, none, none]) rfl ?_
      exact hK
    · replace h := g_neg hb1216 h
      refine m_blk C0 (pX12_ok rfl) kX12_works_ok 14 2 (27, [some (.inr (.inr (71, 0))), some (.inl x1), some (.inl x2), some (.inl 0)], [], σ) (Ps := []) rfl trivial ?_
      obtain ⟨s1214, hq1215, h⟩ := g_bind h
      refine m_mask [true, true, true, true] (ls' := [some (.inr (.inr (71, 0))), some (.inl x1), some (.inl x2), some (.inl 0)]) rfl ?_
      refine p_X12_works_27 hG N C0 hFr N _ _ _ _ _ hq1215 ?_
      refine m_blk C0 (pX12_ok rfl) kX12_works_ok 35 2 (17, [some (.inr (.inr (71, 0))), some (.inl x1), some (.inl (mw (x2 + 1))), none], [], s1214) (Ps := []) rfl trivial ?_
      refine m_mask [true, true, true, false] (ls' := [some (.inr (.inr (71, 0))), some (.inl x1), some (.inl (mw (x2 + 1))), none]) rfl ?_
      exact IH _ _ _ _ h hK
set_option maxRecDepth 100000 in
set_option maxHeartbeats 4000000 in
theorem t_X12_works {e : mEv} (hG : mGeo (mw0 e) lw_kept) (l : Launch) (N : Nat) {a1 : Int} {σ σ' : mS} (h : f_X12_works N a1 σ = some σ') : mMet l (mw0 e) lw_kept 2 yX12_works cX12_works 4 none [.inr (.inr (71, 0)), .inl a1] σ none σ' := by
  refine mMet_intro (plainFor_of_name (by decide)) hG (Nat.le_of_ble_eq_true rfl) (fun f hl hR C0 hFin => ?_)
  subst hl
  have hFr := mFr_of hR hFin
  unfold f_X12_works at h
  show mWW f (mw0 e) sc0 4 (0, [some (.inr (.inr (71, 0))), some (.inl a1), none, none], [], σ)
  refine m_blk C0 (pX12_ok rfl) kX12_works_ok 0 2 (3, [some (.inr (.inr (71, 0))), some (.inl a1), none, none], [.inl 9, .inr (.inr (71, 0))], σ) (Ps := []) rfl trivial ?_
  obtain ⟨s1191, hq1219, h⟩ := g_bind h
  refine c_V (rest := []) C0 hFr (t_X12_clear hG f.2.1 N hq1219) lk_X12_200 (k_at kX12_works_ok 2 rfl) rfl rfl rfl rfl ⟨_, _, rfl⟩ (by decide) (by decide) (Nat.le_of_ble_eq_true rfl) ?_
  refine m_blk C0 (pX12_ok rfl) kX12_works_ok 3 5 (15, [some (.inr (.inr (71, 0))), some (.inl a1), none, none], [], (mup s1191 81 0 6561 1)) (Ps := [0 ≤ (6561 : Int) ∧ (6561 : Int) < 7290]) rfl (And.intro (by decide) trivial) ?_
  refine m_blk C0 (pX12_ok rfl) kX12_works_ok 8 2 (17, [some (.inr (.inr (71, 0))), some (.inl a1), some (.inl 0), none], [], (mup s1191 81 0 6561 1)) (Ps := []) rfl trivial ?_
  obtain ⟨s1217, hq1218, h⟩ := g_bind h
  refine m_mask [true, true, true, false] (ls' := [some (.inr (.inr (71, 0))), some (.inl a1), some (.inl 0), none]) rfl ?_
  refine p_X12_works_17 hG N C0 hFr N _ _ _ _ hq1218 ?_
  cases h
  exact m_vret C0 hFin (k_at kX12_works_ok 37 rfl)
set_option maxRecDepth 100000 in
set_option maxHeartbeats 4000000 in
theorem p_X12_handOther_2 {e : mEv} (hG : mGeo (mw0 e) lw_kept) (N : Nat) {f : mFx} (C0 : mCx f (mw0 e) sc0 cX12_handOther 2 RX12 lw_kept) (hFr : mFr f 0) : ∀ (n : Nat) (x1 : Int) (σ : mS) (σ' : mS), L_X12_handOther_2 N n x1 σ = some σ' → mWW f (mw0 e) sc0 2 (31, [none, none], [], σ') → mWW f (mw0 e) sc0 2 (2, [some (.inr (.inr (71, 0))), some (.inl x1)], [], σ) := by
  intro n
  induction n with
  | zero =>
    intro x1 σ σ' h hK
    cases h
  | succ n IH =>
    intro x1 σ σ' h hK
    rw [L_X12_handOther_2_s] at h
    refine m_blk C0 (pX12_ok rfl) kX12_handOther_ok 2 2 (6, [some (.inr (.inr (71, 0))), some (.inl x1)], [.inl 729, .inl x1], σ) (Ps := []) rfl trivial ?_
    refine b_ige C0 kX12_handOther_ok 4 (off := 25) (tgt := 31) rfl (by decide) (fun hb1221 => ?_) (fun hb1221 => ?_)
    · replace h := g_pos hb1221 h
      cases h
      refine m_mask [false, false] (ls' := [none, none]) rfl ?_
      exact hK
    · replace h := g_neg hb1221 h
      obtain ⟨hc, h⟩ := g_if h
      refine m_blk C0 (pX12_ok rfl) kX12_handOther_ok 5 10 (25, [some (.inr (.inr (71, 0))), some (.inl x1)], [], (mup σ 87 0 x1.toNat (σ 81 0 ((mw ((6561 : Int) + x1)).toNat)))) (Ps := [0 ≤ (mw ((6561 : Int) + x1)) ∧ (mw ((6561 : Int) + x1)) < 7290, 0 ≤ x1 ∧ x1 < 729]) rfl (And.intro hc.1 (And.intro hc.2 trivial)) ?_
      refine m_blk C0 (pX12_ok rfl) kX12_handOther_ok 15 2 (2, [some (.inr (.inr (71, 0))), some (.inl (mw (x1 + 1)))], [], (mup σ 87 0 x1.toNat (σ 81 0 ((mw ((6561 : Int) + x1)).toNat)))) (Ps := []) rfl trivial ?_
      refine m_mask [true, true] (ls' := [some (.inr (.inr (71, 0))), some (.inl (mw (x1 + 1)))]) rfl ?_
      exact IH _ _ _ h hK
set_option maxRecDepth 100000 in
set_option maxHeartbeats 4000000 in
theorem t_X12_handOther {e : mEv} (hG : mGeo (mw0 e) lw_kept) (l : Launch) (N : Nat) {σ σ' : mS} (h : f_X12_handOther N σ = some σ') : mMet l (mw0 e) lw_kept 0 yX12_handOther cX12_handOther 2 none [.inr (.inr (71, 0))] σ none σ' := by
  refine mMet_intro (plainFor_of_name (by decide)) hG (Nat.le_of_ble_eq_true rfl) (fun f hl hR C0 hFin => ?_)
  subst hl
  have hFr := mFr_of hR hFin
  unfold f_X12_handOther at h
  show mWW f (mw0 e) sc0 2 (0, [some (.inr (.inr (71, 0))), none], [], σ)
  refine m_blk C0 (pX12_ok rfl) kX12_handOther_ok 0 2 (2, [some (.inr (.inr (71, 0))), some (.inl 0)], [], σ) (Ps := []) rfl trivial ?_
  obtain ⟨s1222, hq1223, h⟩ := g_bind h
  refine m_mask [true, true] (ls' := [some (.inr (.inr (71, 0))), some (.inl 0)]) rfl ?_
  refine p_X12_handOther_2 hG N C0 hFr N _ _ _ hq1223 ?_
  cases h
  exact m_vret C0 hFin (k_at kX12_handOther_ok 17 rfl)
set_option maxRecDepth 100000 in
set_option maxHeartbeats 4000000 in
theorem p_X12_lessens_2 {e : mEv} (hG : mGeo (mw0 e) lw_kept) (N : Nat) {f : mFx} (C0 : mCx f (mw0 e) sc0 cX12_lessens 4 RX12 lw_kept) (hFr : mFr f 1) : ∀ (n : Nat) (x1 : Int) (σ : mS) (σ' : mS), L_X12_lessens_2 N n x1 σ = some σ' → mWW f (mw0 e) sc0 4 (21, [some (.inr (.inr (71, 0))), none, none, none], [], σ') → mWW f (mw0 e) sc0 4 (2, [some (.inr (.inr (71, 0))), some (.inl x1), none, none], [], σ) := by
  intro n
  induction n with
  | zero =>
    intro x1 σ σ' h hK
    cases h
  | succ n IH =>
    intro x1 σ σ' h hK
    rw [L_X12_lessens_2_s] at h
    refine m_blk C0 (pX12_ok rfl) kX12_lessens_ok 2 2 (5, [some (.inr (.inr (71, 0))), some (.inl x1), none, none], [.inl 30, .inl x1], σ) (Ps := []) rfl trivial ?_
    refine b_ige C0 kX12_lessens_ok 4 (off := 16) (tgt := 21) rfl (by decide) (fun hb1225 => ?_) (fun hb1225 => ?_)
    · replace h := g_pos hb1225 h
      cases h
      refine m_mask [true, false, false, false] (ls' := [some (.inr (.inr (71, 0))), none, none, none]) rfl ?_
      exact hK
    · replace h := g_neg hb1225 h
      obtain ⟨hc, h⟩ := g_if h
      refine m_blk C0 (pX12_ok rfl) kX12_lessens_ok 5 5 (15, [some (.inr (.inr (71, 0))), some (.inl x1), none, none], [], (mup σ 91 0 x1.toNat 0)) (Ps := [0 ≤ x1 ∧ x1 < 30]) rfl (And.intro hc trivial) ?_
      refine m_blk C0 (pX12_ok rfl) kX12_lessens_ok 10 2 (2, [some (.inr (.inr (71, 0))), some (.inl (mw (x1 + 1))), none, none], [], (mup σ 91 0 x1.toNat 0)) (Ps := []) rfl trivial ?_
      refine m_mask [true, true, false, false] (ls' := [some (.inr (.inr (71, 0))), some (.inl (mw (x1 + 1))), none, none]) rfl ?_
      exact IH _ _ _ h hK
set_option maxRecDepth 100000 in
set_option maxHeartbeats 4000000 in
theorem p_X12_lessens_52 {e : mEv} (hG : mGeo (mw0 e) lw_kept) (N : Nat) {f : mFx} (C0 : mCx f (mw0 e) sc0 cX12_lessens 4 RX12 lw_kept) (hFr : mFr f 1) : ∀ (n : Nat) (x1 : Int) (x2 : Int) (x3 : Int) (σ : mS) (σ' : mS), L_X12_lessens_52 N n x1 x2 x3 σ = some σ' → mWW f (mw0 e) sc0 4 (98, [some (.inr (.inr (71, 0))), some (.inl x1), some (.inl x2), none], [], σ') → mWW f (mw0 e) sc0 4 (52, [some (.inr (.inr (71, 0))), some (.inl x1), some (.inl x2), some (.inl x3)], [], σ) := by
  intro n
  induction n with
  | zero =>
    intro x1 x2 x3 σ σ' h hK
    cases h
  | succ n IH =>
    intro x1 x2 x3 σ σ' h hK
    rw [L_X12_lessens_52_s] at h
    refine m_blk C0 (pX12_ok rfl) kX12_lessens_ok 31 2 (56, [some (.inr (.inr (71, 0))), some (.inl x1), some (.inl x2), some (.inl x3)], [.inl 729, .inl x3], σ) (Ps := []) rfl trivial ?_
    refine b_ige C0 kX12_lessens_ok 33 (off := 42) (tgt := 98) rfl (by decide) (fun hb1230 => ?_) (fun hb1230 => ?_)
    · replace h := g_pos hb1230 h
      cases h
      refine m_mask [true, true, true, false] (ls' := [some (.inr (.inr (71, 0))), some (.inl x1), some (.inl x2), none]) rfl ?_
      exact hK
    · replace h := g_neg hb1230 h
      obtain ⟨hc, h⟩ := g_if h
      refine m_blk C0 (pX12_ok rfl) kX12_lessens_ok 34 16 (83, [some (.inr (.inr (71, 0))), some (.inl x1), some (.inl x2), some (.inl x3)], [.inl x3, .inl (mw ((729 : Int) * x1)), .inr (.inr (92, 0)), .inr (.inl x2), .inr (.inl (σ 87 0 x3.toNat)), .inl x3, .inr (.inr (87, 0))], σ) (Ps := [0 ≤ x3 ∧ x3 < 729]) rfl (And.intro hc.1 trivial) ?_
      refine m_blk C0 (pX12_ok rfl) kX12_lessens_ok 50 5 (88, [some (.inr (.inr (71, 0))), some (.inl x1), some (.inl x2), some (.inl x3)], [.inr (.inl (mx ((σ 87 0 x3.toNat) - (mx (x2 * (σ 92 0 ((mw ((mw ((729 : Int) * x1)) + x3)).toNat))))))), .inl x3, .inr (.inr (87, 0))], σ) (Ps := [0 ≤ (mw ((mw ((729 : Int) * x1)) + x3)) ∧ (mw ((mw ((729 : Int) * x1)) + x3)) < 21870]) rfl (And.intro hc.2 trivial) ?_
      obtain ⟨⟨v1228, s1227⟩, hq1229, h⟩ := g_bind h
      refine c_S (rest := [.inl x3, .inr (.inr (87, 0))]) C0 hFr (t_X12_left hG f.2.1 N hq1229) lk_X12_190 (k_at kX12_lessens_ok 55 rfl) rfl rfl rfl (by decide) (by decide) (Nat.le_of_ble_eq_true rfl) ?_
      obtain ⟨hc, h⟩ := g_if h
      refine m_blk C0 (pX12_ok rfl) kX12_lessens_ok 56 1 (92, [some (.inr (.inr (71, 0))), some (.inl x1), some (.inl x2), some (.inl x3)], [], (mup s1227 87 0 x3.toNat v1228)) (Ps := [0 ≤ x3 ∧ x3 < 729]) rfl (And.intro hc trivial) ?_
      refine m_blk C0 (pX12_ok rfl) kX12_lessens_ok 57 2 (52, [some (.inr (.inr (71, 0))), some (.inl x1), some (.inl x2), some (.inl (mw (x3 + 1)))], [], (mup s1227 87 0 x3.toNat v1228)) (Ps := []) rfl trivial ?_
      refine m_mask [true, true, true, true] (ls' := [some (.inr (.inr (71, 0))), some (.inl x1), some (.inl x2), some (.inl (mw (x3 + 1)))]) rfl ?_
      exact IH _ _ _ _ _ h hK
set_option maxRecDepth 100000 in
set_option maxHeartbeats 4000000 in
theorem p_X12_lessens_100 {e : mEv} (hG : mGeo (mw0 e) lw_kept) (N : Nat) {f : mFx} (C0 : mCx f (mw0 e) sc0 cX12_lessens 4 RX12 lw_kept) (hFr : mFr f 1) : ∀ (n : Nat) (x1 : Int) (x2 : Int) (x3 : Int) (σ : mS) (σ' : mS), L_X12_lessens_100 N n x1 x2 x3 σ = some σ' → mWW f (mw0 e) sc0 4 (144, [some (.inr (.inr (71, 0))), some (.inl x1), none, none], [], σ') → mWW f (mw0 e) sc0 4 (100, [some (.inr (.inr (71, 0))), some (.inl x1), some (.inl x2), some (.inl x3)], [], σ) := by
  intro n
  induction n with
  | zero =>
    intro x1 x2 x3 σ σ' h hK
    cases h
  | succ n IH =>
    intro x1 x2 x3 σ σ' h hK
    rw [L_X12_lessens_100_s] at h
    refine m_blk C0 (pX12_ok rfl) kX12_lessens_ok 61 2 (103, [some (.inr (.inr (71, 0))), some (.inl x1), some (.inl x2), some (.inl x3)], [.inl 30, .inl x3], σ) (Ps := []) rfl trivial ?_
    refine b_ige C0 kX12_lessens_ok 63 (off := 41) (tgt := 144) rfl (by decide) (fun hb1235 => ?_) (fun hb1235 => ?_)
    · replace h := g_pos hb1235 h
      cases h
      refine m_mask [true, true, false, false] (ls' := [some (.inr (.inr (71, 0))), some (.inl x1), none, none]) rfl ?_
      exact hK
    · replace h := g_neg hb1235 h
      obtain ⟨hc, h⟩ := g_if h
      refine m_blk C0 (pX12_ok rfl) kX12_lessens_ok 64 16 (129, [some (.inr (.inr (71, 0))), some (.inl x1), some (.inl x2), some (.inl x3)], [.inl x3, .inl (mw ((30 : Int) * x1)), .inr (.inr (90, 0)), .inr (.inl x2), .inr (.inl (σ 91 0 x3.toNat)), .inl x3, .inr (.inr (91, 0))], σ) (Ps := [0 ≤ x3 ∧ x3 < 30]) rfl (And.intro hc.1 trivial) ?_
      refine m_blk C0 (pX12_ok rfl) kX12_lessens_ok 80 5 (134, [some (.inr (.inr (71, 0))), some (.inl x1), some (.inl x2), some (.inl x3)], [.inr (.inl (mx ((σ 91 0 x3.toNat) + (mx (x2 * (σ 90 0 ((mw ((mw ((30 : Int) * x1)) + x3)).toNat))))))), .inl x3, .inr (.inr (91, 0))], σ) (Ps := [0 ≤ (mw ((mw ((30 : Int) * x1)) + x3)) ∧ (mw ((mw ((30 : Int) * x1)) + x3)) < 900]) rfl (And.intro hc.2 trivial) ?_
      obtain ⟨⟨v1233, s1232⟩, hq1234, h⟩ := g_bind h
      refine c_S (rest := [.inl x3, .inr (.inr (91, 0))]) C0 hFr (t_X12_left hG f.2.1 N hq1234) lk_X12_190 (k_at kX12_lessens_ok 85 rfl) rfl rfl rfl (by decide) (by decide) (Nat.le_of_ble_eq_true rfl) ?_
      obtain ⟨hc, h⟩ := g_if h
      refine m_blk C0 (pX12_ok rfl) kX12_lessens_ok 86 1 (138, [some (.inr (.inr (71, 0))), some (.inl x1), some (.inl x2), some (.inl x3)], [], (mup s1232 91 0 x3.toNat v1233)) (Ps := [0 ≤ x3 ∧ x3 < 30]) rfl (And.intro hc trivial) ?_
      refine m_blk C0 (pX12_ok rfl) kX12_lessens_ok 87 2 (100, [some (.inr (.inr (71, 0))), some (.inl x1), some (.inl x2), some (.inl (mw (x3 + 1)))], [], (mup s1232 91 0 x3.toNat v1233)) (Ps := []) rfl trivial ?_
      refine m_mask [true, true, true, true] (ls' := [some (.inr (.inr (71, 0))), some (.inl x1), some (.inl x2), some (.inl (mw (x3 + 1)))]) rfl ?_
      exact IH _ _ _ _ _ h hK
set_option maxRecDepth 100000 in
set_option maxHeartbeats 4000000 in
theorem p_X12_lessens_23 {e : mEv} (hG : mGeo (mw0 e) lw_kept) (N : Nat) {f : mFx} (C0 : mCx f (mw0 e) sc0 cX12_lessens 4 RX12 lw_kept) (hFr : mFr f 1) : ∀ (n : Nat) (x1 : Int) (σ : mS) (σ' : mS), L_X12_lessens_23 N n x1 σ = some σ' → mWW f (mw0 e) sc0 4 (150, [some (.inr (.inr (71, 0))), none, none, none], [], σ') → mWW f (mw0 e) sc0 4 (23, [some (.inr (.inr (71, 0))), some (.inl x1), none, none], [], σ) := by
  intro n
  induction n with
  | zero =>
    intro x1 σ σ' h hK
    cases h
  | succ n IH =>
    intro x1 σ σ' h hK
    rw [L_X12_lessens_23_s] at h
    refine m_blk C0 (pX12_ok rfl) kX12_lessens_ok 14 3 (28, [some (.inr (.inr (71, 0))), some (.inl x1), none, none], [.inl (σ 71 0 27), .inl x1], σ) (Ps := []) rfl trivial ?_
    refine b_ige C0 kX12_lessens_ok 17 (off := 122) (tgt := 150) rfl (by decide) (fun hb1240 => ?_) (fun hb1240 => ?_)
    · replace h := g_pos hb1240 h
      cases h
      refine m_mask [true, false, false, false] (ls' := [some (.inr (.inr (71, 0))), none, none, none]) rfl ?_
      exact hK
    · replace h := g_neg hb1240 h
      obtain ⟨hc, h⟩ := g_if h
      refine m_blk C0 (pX12_ok rfl) kX12_lessens_ok 18 9 (44, [some (.inr (.inr (71, 0))), some (.inl x1), some (.inl (σ 87 0 ((σ 86 0 x1.toNat).toNat))), none], [.inl (σ 87 0 ((σ 86 0 x1.toNat).toNat))], σ) (Ps := [0 ≤ x1 ∧ x1 < 30, 0 ≤ (σ 86 0 x1.toNat) ∧ (σ 86 0 x1.toNat) < 729]) rfl (And.intro hc.1 (And.intro hc.2 trivial)) ?_
      refine b_ne C0 kX12_lessens_ok 27 (off := 6) (tgt := 50) rfl (by decide) (fun hb1239 => ?_) (fun hb1239 => ?_)
      · replace h := g_neg hb1239 h
        refine m_blk C0 (pX12_ok rfl) kX12_lessens_ok 29 2 (52, [some (.inr (.inr (71, 0))), some (.inl x1), some (.inl (σ 87 0 ((σ 86 0 x1.toNat).toNat))), some (.inl 0)], [], σ) (Ps := []) rfl trivial ?_
        obtain ⟨s1231, hq1238, h⟩ := g_bind h
        refine m_mask [true, true, true, true] (ls' := [some (.inr (.inr (71, 0))), some (.inl x1), some (.inl (σ 87 0 ((σ 86 0 x1.toNat).toNat))), some (.inl 0)]) rfl ?_
        refine p_X12_lessens_52 hG N C0 hFr N _ _ _ _ _ hq1238 ?_
        refine m_blk C0 (pX12_ok rfl) kX12_lessens_ok 59 2 (100, [some (.inr (.inr (71, 0))), some (.inl x1), some (.inl (σ 87 0 ((σ 86 0 x1.toNat).toNat))), some (.inl 0)], [], s1231) (Ps := []) rfl trivial ?_
        obtain ⟨s1236, hq1237, h⟩ := g_bind h
        refine m_mask [true, true, true, true] (ls' := [some (.inr (.inr (71, 0))), some (.inl x1), some (.inl (σ 87 0 ((σ 86 0 x1.toNat).toNat))), some (.inl 0)]) rfl ?_
        refine p_X12_lessens_100 hG N C0 hFr N _ _ _ _ _ hq1237 ?_
        refine m_blk C0 (pX12_ok rfl) kX12_lessens_ok 89 2 (23, [some (.inr (.inr (71, 0))), some (.inl (mw (x1 + 1))), none, none], [], s1236) (Ps := []) rfl trivial ?_
        refine m_mask [true, true, false, false] (ls' := [some (.inr (.inr (71, 0))), some (.inl (mw (x1 + 1))), none, none]) rfl ?_
        exact IH _ _ _ h hK
      · replace h := g_pos hb1239 h
        refine m_blk C0 (pX12_ok rfl) kX12_lessens_ok 28 1 (144, [some (.inr (.inr (71, 0))), some (.inl x1), some (.inl (σ 87 0 ((σ 86 0 x1.toNat).toNat))), none], [], σ) (Ps := []) rfl trivial ?_
        refine m_blk C0 (pX12_ok rfl) kX12_lessens_ok 89 2 (23, [some (.inr (.inr (71, 0))), some (.inl (mw (x1 + 1))), some (.inl (σ 87 0 ((σ 86 0 x1.toNat).toNat))), none], [], σ) (Ps := []) rfl trivial ?_
        refine m_mask [true, true, false, false] (ls' := [some (.inr (.inr (71, 0))), some (.inl (mw (x1 + 1))), none, none]) rfl ?_
        exact IH _ _ _ h hK
set_option maxRecDepth 100000 in
set_option maxHeartbeats 4000000 in
theorem p_X12_lessens_154 {e : mEv} (hG : mGeo (mw0 e) lw_kept) (N : Nat) {f : mFx} (C0 : mCx f (mw0 e) sc0 cX12_lessens 4 RX12 lw_kept) (hFr : mFr f 1) : ∀ (n : Nat) (x1 : Int) (x2 : Int) (σ : mS) (o1 : Int) (σ' : mS), L_X12_lessens_154 N n x1 x2 σ = some (o1, σ') → mWW f (mw0 e) sc0 4 (186, [none, some (.inl o1), none, none], [], σ') → mWW f (mw0 e) sc0 4 (154, [some (.inr (.inr (71, 0))), some (.inl x1), some (.inl x2), none], [], σ) := by
  intro n
  induction n with
  | zero =>
    intro x1 x2 σ o1 σ' h hK
    cases h
  | succ n IH =>
    intro x1 x2 σ o1 σ' h hK
    rw [L_X12_lessens_154_s] at h
    refine m_blk C0 (pX12_ok rfl) kX12_lessens_ok 95 2 (158, [some (.inr (.inr (71, 0))), some (.inl x1), some (.inl x2), none], [.inl 729, .inl x2], σ) (Ps := []) rfl trivial ?_
    refine b_ige C0 kX12_lessens_ok 97 (off := 28) (tgt := 186) rfl (by decide) (fun hb1244 => ?_) (fun hb1244 => ?_)
    · replace h := g_pos hb1244 h
      cases h
      refine m_mask [false, true, false, false] (ls' := [none, some (.inl x1), none, none]) rfl ?_
      exact hK
    · replace h := g_neg hb1244 h
      refine m_blk C0 (pX12_ok rfl) kX12_lessens_ok 98 1 (162, [some (.inr (.inr (71, 0))), some (.inl x1), some (.inl x2), none], [.inl x1], σ) (Ps := []) rfl trivial ?_
      refine b_eq C0 kX12_lessens_ok 99 (off := 16) (tgt := 178) rfl (by decide) (fun hb1243 => ?_) (fun hb1243 => ?_)
      · replace h := g_pos hb1243 h
        refine m_blk C0 (pX12_ok rfl) kX12_lessens_ok 107 4 (154, [some (.inr (.inr (71, 0))), some (.inl 0), some (.inl (mw (x2 + 1))), none], [], σ) (Ps := []) rfl trivial ?_
        refine m_mask [true, true, true, false] (ls' := [some (.inr (.inr (71, 0))), some (.inl 0), some (.inl (mw (x2 + 1))), none]) rfl ?_
        exact IH _ _ _ _ _ h hK
      · replace h := g_neg hb1243 h
        obtain ⟨hc, h⟩ := g_if h
        refine m_blk C0 (pX12_ok rfl) kX12_lessens_ok 100 4 (171, [some (.inr (.inr (71, 0))), some (.inl x1), some (.inl x2), none], [.inl (σ 87 0 x2.toNat)], σ) (Ps := [0 ≤ x2 ∧ x2 < 729]) rfl (And.intro hc trivial) ?_
        refine b_ne C0 kX12_lessens_ok 104 (off := 7) (tgt := 178) rfl (by decide) (fun hb1242 => ?_) (fun hb1242 => ?_)
        · replace h := g_neg hb1242 h
          refine m_blk C0 (pX12_ok rfl) kX12_lessens_ok 107 4 (154, [some (.inr (.inr (71, 0))), some (.inl 0), some (.inl (mw (x2 + 1))), none], [], σ) (Ps := []) rfl trivial ?_
          refine m_mask [true, true, true, false] (ls' := [some (.inr (.inr (71, 0))), some (.inl 0), some (.inl (mw (x2 + 1))), none]) rfl ?_
          exact IH _ _ _ _ _ h hK
        · replace h := g_pos hb1242 h
          refine m_blk C0 (pX12_ok rfl) kX12_lessens_ok 105 2 (179, [some (.inr (.inr (71, 0))), some (.inl x1), some (.inl x2), none], [.inl 1], σ) (Ps := []) rfl trivial ?_
          refine m_blk C0 (pX12_ok rfl) kX12_lessens_ok 108 3 (154, [some (.inr (.inr (71, 0))), some (.inl 1), some (.inl (mw (x2 + 1))), none], [], σ) (Ps := []) rfl trivial ?_
          refine m_mask [true, true, true, false] (ls' := [some (.inr (.inr (71, 0))), some (.inl 1), some (.inl (mw (x2 + 1))), none]) rfl ?_
          exact IH _ _ _ _ _ h hK
set_option maxRecDepth 100000 in
set_option maxHeartbeats 4000000 in
theorem t_X12_lessens {e : mEv} (hG : mGeo (mw0 e) lw_kept) (l : Launch) (N : Nat) {σ σ' : mS} {v : Int} (h : f_X12_lessens N σ = some (v, σ')) : mMet l (mw0 e) lw_kept 1 yX12_lessens cX12_lessens 4 (some .boolean) [.inr (.inr (71, 0))] σ (some (.inl v)) σ' := by
  refine mMet_intro (plainFor_of_name (by decide)) hG (Nat.le_of_ble_eq_true rfl) (fun f hl hR C0 hFin => ?_)
  subst hl
  have hFr := mFr_of hR hFin
  unfold f_X12_lessens at h
  show mWW f (mw0 e) sc0 4 (0, [some (.inr (.inr (71, 0))), none, none, none], [], σ)
  refine m_blk C0 (pX12_ok rfl) kX12_lessens_ok 0 2 (2, [some (.inr (.inr (71, 0))), some (.inl 0), none, none], [], σ) (Ps := []) rfl trivial ?_
  obtain ⟨s1226, hq1249, h⟩ := g_bind h
  refine m_mask [true, true, false, false] (ls' := [some (.inr (.inr (71, 0))), some (.inl 0), none, none]) rfl ?_
  refine p_X12_lessens_2 hG N C0 hFr N _ _ _ hq1249 ?_
  refine m_blk C0 (pX12_ok rfl) kX12_lessens_ok 12 2 (23, [some (.inr (.inr (71, 0))), some (.inl 0), none, none], [], s1226) (Ps := []) rfl trivial ?_
  obtain ⟨s1241, hq1248, h⟩ := g_bind h
  refine m_mask [true, true, false, false] (ls' := [some (.inr (.inr (71, 0))), some (.inl 0), none, none]) rfl ?_
  refine p_X12_lessens_23 hG N C0 hFr N _ _ _ hq1248 ?_
  refine m_blk C0 (pX12_ok rfl) kX12_lessens_ok 91 4 (154, [some (.inr (.inr (71, 0))), some (.inl 1), some (.inl 0), none], [], s1241) (Ps := []) rfl trivial ?_
  obtain ⟨⟨o1246, s1245⟩, hq1247, h⟩ := g_bind h
  refine m_mask [true, true, true, false] (ls' := [some (.inr (.inr (71, 0))), some (.inl 1), some (.inl 0), none]) rfl ?_
  refine p_X12_lessens_154 hG N C0 hFr N _ _ _ _ _ hq1247 ?_
  refine m_blk C0 (pX12_ok rfl) kX12_lessens_ok 111 1 (187, [none, some (.inl o1246), none, none], [.inl o1246], s1245) (Ps := []) rfl trivial ?_
  obtain ⟨hz, h⟩ := g_if h
  cases h
  exact m_iret C0 hFin (k_at kX12_lessens_ok 112 rfl) (Or.inr ⟨rfl, hz⟩)
set_option maxRecDepth 100000 in
set_option maxHeartbeats 4000000 in
theorem p_X12_by_10 {e : mEv} (hG : mGeo (mw0 e) lw_kept) (N : Nat) {f : mFx} (C0 : mCx f (mw0 e) sc0 cX12_by 6 RX12 lw_kept) (hFr : mFr f 0) : ∀ (n : Nat) (x1 : Int) (x2 : Int) (x4 : Int) (σ : mS) (o2 : Int) (σ' : mS), L_X12_by_10 N n x1 x2 x4 σ = some (o2, σ') → mWW f (mw0 e) sc0 6 (48, [none, none, some (.inr (.inl o2)), none, none, none], [], σ') → mWW f (mw0 e) sc0 6 (10, [none, some (.inl x1), some (.inr (.inl x2)), none, some (.inr (.inl x4)), none], [], σ) := by
  intro n
  induction n with
  | zero =>
    intro x1 x2 x4 σ o2 σ' h hK
    cases h
  | succ n IH =>
    intro x1 x2 x4 σ o2 σ' h hK
    rw [L_X12_by_10_s] at h
    refine m_blk C0 (pX12_ok rfl) kX12_by_ok 7 1 (11, [none, some (.inl x1), some (.inr (.inl x2)), none, some (.inr (.inl x4)), none], [.inl x1], σ) (Ps := []) rfl trivial ?_
    refine b_le C0 kX12_by_ok 8 (off := 37) (tgt := 48) rfl (by decide) (fun hb1256 => ?_) (fun hb1256 => ?_)
    · replace h := g_pos hb1256 h
      cases h
      refine m_mask [false, false, true, false, false, false] (ls' := [none, none, some (.inr (.inl x2)), none, none, none]) rfl ?_
      exact hK
    · replace h := g_neg hb1256 h
      refine m_blk C0 (pX12_ok rfl) kX12_by_ok 9 4 (18, [none, some (.inl x1), some (.inr (.inl x2)), none, some (.inr (.inl x4)), none], [.inl 1, .inl (o_rem x1 2)], σ) (Ps := [¬ (2 : Int) = 0]) rfl (And.intro (by decide) trivial) ?_
      refine b_ine C0 kX12_by_ok 13 (off := 12) (tgt := 30) rfl (by decide) (fun hb1255 => ?_) (fun hb1255 => ?_)
      · replace h := g_neg hb1255 h
        refine m_blk C0 (pX12_ok rfl) kX12_by_ok 20 11 (10, [none, some (.inl (o_div x1 2)), some (.inr (.inl x2)), none, some (.inr (.inl (o_lrem (mx (x4 * x4)) 32003))), none], [], σ) (Ps := [¬ (32003 : Int) = 0, ¬ (2 : Int) = 0]) rfl (And.intro (by decide) (And.intro (by decide) trivial)) ?_
        refine m_mask [false, true, true, false, true, false] (ls' := [none, some (.inl (o_div x1 2)), some (.inr (.inl x2)), none, some (.inr (.inl (o_lrem (mx (x4 * x4)) 32003))), none]) rfl ?_
        exact IH _ _ _ _ _ _ h hK
      · replace h := g_pos hb1255 h
        refine m_blk C0 (pX12_ok rfl) kX12_by_ok 14 16 (45, [none, some (.inl (o_div x1 2)), some (.inr (.inl (o_lrem (mx (x2 * x4)) 32003))), none, some (.inr (.inl (o_lrem (mx (x4 * x4)) 32003))), none], [], σ) (Ps := [¬ (32003 : Int) = 0, ¬ (32003 : Int) = 0, ¬ (2 : Int) = 0]) rfl (And.intro (by decide) (And.intro (by decide) (And.intro (by decide) trivial))) ?_
        refine m_blk C0 (pX12_ok rfl) kX12_by_ok 30 1 (10, [none, some (.inl (o_div x1 2)), some (.inr (.inl (o_lrem (mx (x2 * x4)) 32003))), none, some (.inr (.inl (o_lrem (mx (x4 * x4)) 32003))), none], [], σ) (Ps := []) rfl trivial ?_
        refine m_mask [false, true, true, false, true, false] (ls' := [none, some (.inl (o_div x1 2)), some (.inr (.inl (o_lrem (mx (x2 * x4)) 32003))), none, some (.inr (.inl (o_lrem (mx (x4 * x4)) 32003))), none]) rfl ?_
        exact IH _ _ _ _ _ _ h hK
set_option maxRecDepth 100000 in
set_option maxHeartbeats 4000000 in
theorem t_X12_by {e : mEv} (hG : mGeo (mw0 e) lw_kept) (l : Launch) (N : Nat) {a0 : Int} {σ σ' : mS} {v : Int} (h : f_X12_by N a0 σ = some (v, σ')) : mMet l (mw0 e) lw_kept 0 yX12_by cX12_by 6 (some .int) [.inl a0] σ (some (.inl v)) σ' := by
  refine mMet_intro (plainFor_of_name (by decide)) hG (Nat.le_of_ble_eq_true rfl) (fun f hl hR C0 hFin => ?_)
  subst hl
  have hFr := mFr_of hR hFin
  unfold f_X12_by at h
  show mWW f (mw0 e) sc0 6 (0, [some (.inl a0), none, none, none, none, none], [], σ)
  refine m_blk C0 (pX12_ok rfl) kX12_by_ok 0 7 (10, [some (.inl a0), some (.inl 32001), some (.inr (.inl 1)), none, some (.inr (.inl a0)), none], [], σ) (Ps := []) rfl trivial ?_
  obtain ⟨⟨o1258, s1257⟩, hq1259, h⟩ := g_bind h
  refine m_mask [false, true, true, false, true, false] (ls' := [none, some (.inl 32001), some (.inr (.inl 1)), none, some (.inr (.inl a0)), none]) rfl ?_
  refine p_X12_by_10 hG N C0 hFr N _ _ _ _ _ _ hq1259 ?_
  refine m_blk C0 (pX12_ok rfl) kX12_by_ok 31 2 (50, [none, none, some (.inr (.inl o1258)), none, none, none], [.inl (mw o1258)], s1257) (Ps := []) rfl trivial ?_
  cases h
  exact m_iret C0 hFin (k_at kX12_by_ok 33 rfl) (Or.inl rfl)
set_option maxRecDepth 100000 in
set_option maxHeartbeats 4000000 in
theorem p_X12_keeps_2 {e : mEv} (hG : mGeo (mw0 e) lw_kept) (N : Nat) {f : mFx} (C0 : mCx f (mw0 e) sc0 cX12_keeps 5 RX12 lw_kept) (hFr : mFr f 1) : ∀ (n : Nat) (x1 : Int) (x2 : Int) (σ : mS) (o2 : Int) (σ' : mS), L_X12_keeps_2 N n x1 x2 σ = some (o2, σ') → mWW f (mw0 e) sc0 5 (17, [some (.inr (.inr (71, 0))), some (.inl x1), some (.inl o2), none, none], [], σ') → mWW f (mw0 e) sc0 5 (2, [some (.inr (.inr (71, 0))), some (.inl x1), some (.inl x2), none, none], [], σ) := by
  intro n
  induction n with
  | zero =>
    intro x1 x2 σ o2 σ' h hK
    cases h
  | succ n IH =>
    intro x1 x2 σ o2 σ' h hK
    rw [L_X12_keeps_2_s] at h
    obtain ⟨hc, h⟩ := g_if h
    refine m_blk C0 (pX12_ok rfl) kX12_keeps_ok 2 4 (8, [some (.inr (.inr (71, 0))), some (.inl x1), some (.inl x2), none, none], [.inl (σ 87 0 x2.toNat)], σ) (Ps := [0 ≤ x2 ∧ x2 < 729]) rfl (And.intro hc trivial) ?_
    refine b_ne C0 kX12_keeps_ok 6 (off := 9) (tgt := 17) rfl (by decide) (fun hb1252 => ?_) (fun hb1252 => ?_)
    · replace h := g_neg hb1252 h
      cases h
      refine m_mask [true, true, true, false, false] (ls' := [some (.inr (.inr (71, 0))), some (.inl x1), some (.inl x2), none, none]) rfl ?_
      exact hK
    · replace h := g_pos hb1252 h
      refine m_blk C0 (pX12_ok rfl) kX12_keeps_ok 7 2 (2, [some (.inr (.inr (71, 0))), some (.inl x1), some (.inl (mw (x2 + 1))), none, none], [], σ) (Ps := []) rfl trivial ?_
      refine m_mask [true, true, true, false, false] (ls' := [some (.inr (.inr (71, 0))), some (.inl x1), some (.inl (mw (x2 + 1))), none, none]) rfl ?_
      exact IH _ _ _ _ _ h hK
set_option maxRecDepth 100000 in
set_option maxHeartbeats 4000000 in
theorem p_X12_keeps_30 {e : mEv} (hG : mGeo (mw0 e) lw_kept) (N : Nat) {f : mFx} (C0 : mCx f (mw0 e) sc0 cX12_keeps 5 RX12 lw_kept) (hFr : mFr f 1) : ∀ (n : Nat) (x1 : Int) (x2 : Int) (x3 : Int) (x4 : Int) (σ : mS) (σ' : mS), L_X12_keeps_30 N n x1 x2 x3 x4 σ = some σ' → mWW f (mw0 e) sc0 5 (74, [some (.inr (.inr (71, 0))), some (.inl x1), some (.inl x2), some (.inl x3), none], [], σ') → mWW f (mw0 e) sc0 5 (30, [some (.inr (.inr (71, 0))), some (.inl x1), some (.inl x2), some (.inl x3), some (.inl x4)], [], σ) := by
  intro n
  induction n with
  | zero =>
    intro x1 x2 x3 x4 σ σ' h hK
    cases h
  | succ n IH =>
    intro x1 x2 x3 x4 σ σ' h hK
    rw [L_X12_keeps_30_s] at h
    refine m_blk C0 (pX12_ok rfl) kX12_keeps_ok 17 2 (35, [some (.inr (.inr (71, 0))), some (.inl x1), some (.inl x2), some (.inl x3), some (.inl x4)], [.inl 729, .inl x4], σ) (Ps := []) rfl trivial ?_
    refine b_ige C0 kX12_keeps_ok 19 (off := 39) (tgt := 74) rfl (by decide) (fun hb1265 => ?_) (fun hb1265 => ?_)
    · replace h := g_pos hb1265 h
      cases h
      refine m_mask [true, true, true, true, false] (ls' := [some (.inr (.inr (71, 0))), some (.inl x1), some (.inl x2), some (.inl x3), none]) rfl ?_
      exact hK
    · replace h := g_neg hb1265 h
      obtain ⟨hc, h⟩ := g_if h
      refine m_blk C0 (pX12_ok rfl) kX12_keeps_ok 20 16 (64, [some (.inr (.inr (71, 0))), some (.inl x1), some (.inl x2), some (.inl x3), some (.inl x4)], [.inr (.inl (mx ((σ 87 0 x4.toNat) * x3))), .inl (mw ((mw ((729 : Int) * (σ 71 0 27))) + x4)), .inr (.inr (92, 0))], σ) (Ps := [0 ≤ x4 ∧ x4 < 729]) rfl (And.intro hc trivial) ?_
      obtain ⟨⟨v1263, s1262⟩, hq1264, h⟩ := g_bind h
      refine c_S (rest := [.inl (mw ((mw ((729 : Int) * (σ 71 0 27))) + x4)), .inr (.inr (92, 0))]) C0 hFr (t_X12_left hG f.2.1 N hq1264) lk_X12_190 (k_at kX12_keeps_ok 36 rfl) rfl rfl rfl (by decide) (by decide) (Nat.le_of_ble_eq_true rfl) ?_
      obtain ⟨hc, h⟩ := g_if h
      refine m_blk C0 (pX12_ok rfl) kX12_keeps_ok 37 1 (68, [some (.inr (.inr (71, 0))), some (.inl x1), some (.inl x2), some (.inl x3), some (.inl x4)], [], (mup s1262 92 0 ((mw ((mw ((729 : Int) * (σ 71 0 27))) + x4)).toNat) v1263)) (Ps := [0 ≤ (mw ((mw ((729 : Int) * (σ 71 0 27))) + x4)) ∧ (mw ((mw ((729 : Int) * (σ 71 0 27))) + x4)) < 21870]) rfl (And.intro hc trivial) ?_
      refine m_blk C0 (pX12_ok rfl) kX12_keeps_ok 38 2 (30, [some (.inr (.inr (71, 0))), some (.inl x1), some (.inl x2), some (.inl x3), some (.inl (mw (x4 + 1)))], [], (mup s1262 92 0 ((mw ((mw ((729 : Int) * (σ 71 0 27))) + x4)).toNat) v1263)) (Ps := []) rfl trivial ?_
      refine m_mask [true, true, true, true, true] (ls' := [some (.inr (.inr (71, 0))), some (.inl x1), some (.inl x2), some (.inl x3), some (.inl (mw (x4 + 1)))]) rfl ?_
      exact IH _ _ _ _ _ _ h hK
set_option maxRecDepth 100000 in
set_option maxHeartbeats 4000000 in
theorem p_X12_keeps_77 {e : mEv} (hG : mGeo (mw0 e) lw_kept) (N : Nat) {f : mFx} (C0 : mCx f (mw0 e) sc0 cX12_keeps 5 RX12 lw_kept) (hFr : mFr f 1) : ∀ (n : Nat) (x1 : Int) (x2 : Int) (x3 : Int) (x4 : Int) (σ : mS) (σ' : mS), L_X12_keeps_77 N n x1 x2 x3 x4 σ = some σ' → mWW f (mw0 e) sc0 5 (141, [some (.inr (.inr (71, 0))), some (.inl x1), some (.inl x2), none, none], [], σ') → mWW f (mw0 e) sc0 5 (77, [some (.inr (.inr (71, 0))), some (.inl x1), some (.inl x2), some (.inl x3), some (.inl x4)], [], σ) := by
  intro n
  induction n with
  | zero =>
    intro x1 x2 x3 x4 σ σ' h hK
    cases h
  | succ n IH =>
    intro x1 x2 x3 x4 σ σ' h hK
    rw [L_X12_keeps_77_s] at h
    refine m_blk C0 (pX12_ok rfl) kX12_keeps_ok 42 2 (81, [some (.inr (.inr (71, 0))), some (.inl x1), some (.inl x2), some (.inl x3), some (.inl x4)], [.inl 30, .inl x4], σ) (Ps := []) rfl trivial ?_
    refine b_ige C0 kX12_keeps_ok 44 (off := 60) (tgt := 141) rfl (by decide) (fun hb1274 => ?_) (fun hb1274 => ?_)
    · replace h := g_pos hb1274 h
      cases h
      refine m_mask [true, true, true, false, false] (ls' := [some (.inr (.inr (71, 0))), some (.inl x1), some (.inl x2), none, none]) rfl ?_
      exact hK
    · replace h := g_neg hb1274 h
      refine m_blk C0 (pX12_ok rfl) kX12_keeps_ok 45 11 (104, [some (.inr (.inr (71, 0))), some (.inl x1), some (.inl x2), some (.inl x3), some (.inl x4)], [.inl (σ 71 0 27), .inl x4, .inl (mw ((mw ((30 : Int) * (σ 71 0 27))) + x4)), .inr (.inr (90, 0))], σ) (Ps := []) rfl trivial ?_
      refine b_ine C0 kX12_keeps_ok 56 (off := 15) (tgt := 119) rfl (by decide) (fun hb1273 => ?_) (fun hb1273 => ?_)
      · replace h := g_neg hb1273 h
        obtain ⟨hc, h⟩ := g_if h
        refine m_blk C0 (pX12_ok rfl) kX12_keeps_ok 64 9 (131, [some (.inr (.inr (71, 0))), some (.inl x1), some (.inl x2), some (.inl x3), some (.inl x4)], [.inr (.inl (mx ((mw (-(σ 91 0 x4.toNat))) * x3))), .inl (mw ((mw ((30 : Int) * (σ 71 0 27))) + x4)), .inr (.inr (90, 0))], σ) (Ps := [0 ≤ x4 ∧ x4 < 30]) rfl (And.intro hc trivial) ?_
        obtain ⟨⟨v1268, s1267⟩, hq1269, h⟩ := g_bind h
        refine c_S (rest := [.inl (mw ((mw ((30 : Int) * (σ 71 0 27))) + x4)), .inr (.inr (90, 0))]) C0 hFr (t_X12_left hG f.2.1 N hq1269) lk_X12_190 (k_at kX12_keeps_ok 73 rfl) rfl rfl rfl (by decide) (by decide) (Nat.le_of_ble_eq_true rfl) ?_
        obtain ⟨hc, h⟩ := g_if h
        refine m_blk C0 (pX12_ok rfl) kX12_keeps_ok 74 1 (135, [some (.inr (.inr (71, 0))), some (.inl x1), some (.inl x2), some (.inl x3), some (.inl x4)], [], (mup s1267 90 0 ((mw ((mw ((30 : Int) * (σ 71 0 27))) + x4)).toNat) v1268)) (Ps := [0 ≤ (mw ((mw ((30 : Int) * (σ 71 0 27))) + x4)) ∧ (mw ((mw ((30 : Int) * (σ 71 0 27))) + x4)) < 900]) rfl (And.intro hc trivial) ?_
        refine m_blk C0 (pX12_ok rfl) kX12_keeps_ok 75 2 (77, [some (.inr (.inr (71, 0))), some (.inl x1), some (.inl x2), some (.inl x3), some (.inl (mw (x4 + 1)))], [], (mup s1267 90 0 ((mw ((mw ((30 : Int) * (σ 71 0 27))) + x4)).toNat) v1268)) (Ps := []) rfl trivial ?_
        refine m_mask [true, true, true, true, true] (ls' := [some (.inr (.inr (71, 0))), some (.inl x1), some (.inl x2), some (.inl x3), some (.inl (mw (x4 + 1)))]) rfl ?_
        exact IH _ _ _ _ _ _ h hK
      · replace h := g_pos hb1273 h
        obtain ⟨hc, h⟩ := g_if h
        refine m_blk C0 (pX12_ok rfl) kX12_keeps_ok 57 7 (127, [some (.inr (.inr (71, 0))), some (.inl x1), some (.inl x2), some (.inl x3), some (.inl x4)], [.inl (mw ((1 : Int) - (σ 91 0 x4.toNat))), .inl (mw ((mw ((30 : Int) * (σ 71 0 27))) + x4)), .inr (.inr (90, 0))], σ) (Ps := [0 ≤ x4 ∧ x4 < 30]) rfl (And.intro hc trivial) ?_
        refine m_blk C0 (pX12_ok rfl) kX12_keeps_ok 69 4 (131, [some (.inr (.inr (71, 0))), some (.inl x1), some (.inl x2), some (.inl x3), some (.inl x4)], [.inr (.inl (mx ((mw ((1 : Int) - (σ 91 0 x4.toNat))) * x3))), .inl (mw ((mw ((30 : Int) * (σ 71 0 27))) + x4)), .inr (.inr (90, 0))], σ) (Ps := []) rfl trivial ?_
        obtain ⟨⟨v1271, s1270⟩, hq1272, h⟩ := g_bind h
        refine c_S (rest := [.inl (mw ((mw ((30 : Int) * (σ 71 0 27))) + x4)), .inr (.inr (90, 0))]) C0 hFr (t_X12_left hG f.2.1 N hq1272) lk_X12_190 (k_at kX12_keeps_ok 73 rfl) rfl rfl rfl (by decide) (by decide) (Nat.le_of_ble_eq_true rfl) ?_
        obtain ⟨hc, h⟩ := g_if h
        refine m_blk C0 (pX12_ok rfl) kX12_keeps_ok 74 1 (135, [some (.inr (.inr (71, 0))), some (.inl x1), some (.inl x2), some (.inl x3), some (.inl x4)], [], (mup s1270 90 0 ((mw ((mw ((30 : Int) * (σ 71 0 27))) + x4)).toNat) v1271)) (Ps := [0 ≤ (mw ((mw ((30 : Int) * (σ 71 0 27))) + x4)) ∧ (mw ((mw ((30 : Int) * (σ 71 0 27))) + x4)) < 900]) rfl (And.intro hc trivial) ?_
        refine m_blk C0 (pX12_ok rfl) kX12_keeps_ok 75 2 (77, [some (.inr (.inr (71, 0))), some (.inl x1), some (.inl x2), some (.inl x3), some (.inl (mw (x4 + 1)))], [], (mup s1270 90 0 ((mw ((mw ((30 : Int) * (σ 71 0 27))) + x4)).toNat) v1271)) (Ps := []) rfl trivial ?_
        refine m_mask [true, true, true, true, true] (ls' := [some (.inr (.inr (71, 0))), some (.inl x1), some (.inl x2), some (.inl x3), some (.inl (mw (x4 + 1)))]) rfl ?_
        exact IH _ _ _ _ _ _ h hK
set_option maxRecDepth 100000 in
set_option maxHeartbeats 4000000 in
theorem t_X12_keeps {e : mEv} (hG : mGeo (mw0 e) lw_kept) (l : Launch) (N : Nat) {a1 : Int} {σ σ' : mS} (h : f_X12_keeps N a1 σ = some σ') : mMet l (mw0 e) lw_kept 1 yX12_keeps cX12_keeps 5 none [.inr (.inr (71, 0)), .inl a1] σ none σ' := by
  refine mMet_intro (plainFor_of_name (by decide)) hG (Nat.le_of_ble_eq_true rfl) (fun f hl hR C0 hFin => ?_)
  subst hl
  have hFr := mFr_of hR hFin
  unfold f_X12_keeps at h
  show mWW f (mw0 e) sc0 5 (0, [some (.inr (.inr (71, 0))), some (.inl a1), none, none, none], [], σ)
  refine m_blk C0 (pX12_ok rfl) kX12_keeps_ok 0 2 (2, [some (.inr (.inr (71, 0))), some (.inl a1), some (.inl 0), none, none], [], σ) (Ps := []) rfl trivial ?_
  obtain ⟨⟨o1254, s1253⟩, hq1279, h⟩ := g_bind h
  refine m_mask [true, true, true, false, false] (ls' := [some (.inr (.inr (71, 0))), some (.inl a1), some (.inl 0), none, none]) rfl ?_
  refine p_X12_keeps_2 hG N C0 hFr N _ _ _ _ _ hq1279 ?_
  obtain ⟨hc, h⟩ := g_if h
  refine m_blk C0 (pX12_ok rfl) kX12_keeps_ok 9 4 (23, [some (.inr (.inr (71, 0))), some (.inl a1), some (.inl o1254), none, none], [.inl (s1253 87 0 o1254.toNat)], s1253) (Ps := [0 ≤ o1254 ∧ o1254 < 729]) rfl (And.intro hc trivial) ?_
  obtain ⟨⟨v1261, s1260⟩, hq1278, h⟩ := g_bind h
  refine c_S (rest := []) C0 hFr (t_X12_by hG f.2.1 N hq1278) lk_X12_231 (k_at kX12_keeps_ok 13 rfl) rfl rfl rfl (by decide) (by decide) (Nat.le_of_ble_eq_true rfl) ?_
  refine m_blk C0 (pX12_ok rfl) kX12_keeps_ok 14 3 (30, [some (.inr (.inr (71, 0))), some (.inl a1), some (.inl o1254), some (.inl v1261), some (.inl 0)], [], s1260) (Ps := []) rfl trivial ?_
  obtain ⟨s1266, hq1277, h⟩ := g_bind h
  refine m_mask [true, true, true, true, true] (ls' := [some (.inr (.inr (71, 0))), some (.inl a1), some (.inl o1254), some (.inl v1261), some (.inl 0)]) rfl ?_
  refine p_X12_keeps_30 hG N C0 hFr N _ _ _ _ _ _ hq1277 ?_
  refine m_blk C0 (pX12_ok rfl) kX12_keeps_ok 40 2 (77, [some (.inr (.inr (71, 0))), some (.inl a1), some (.inl o1254), some (.inl v1261), some (.inl 0)], [], s1266) (Ps := []) rfl trivial ?_
  obtain ⟨s1275, hq1276, h⟩ := g_bind h
  refine m_mask [true, true, true, true, true] (ls' := [some (.inr (.inr (71, 0))), some (.inl a1), some (.inl o1254), some (.inl v1261), some (.inl 0)]) rfl ?_
  refine p_X12_keeps_77 hG N C0 hFr N _ _ _ _ _ _ hq1276 ?_
  obtain ⟨hc, h⟩ := g_if h
  refine m_blk C0 (pX12_ok rfl) kX12_keeps_ok 77 6 (151, [some (.inr (.inr (71, 0))), some (.inl a1), some (.inl o1254), none, none], [], (mup s1275 86 0 ((s1275 71 0 27).toNat) o1254)) (Ps := [0 ≤ (s1275 71 0 27) ∧ (s1275 71 0 27) < 30]) rfl (And.intro hc trivial) ?_
  refine m_blk C0 (pX12_ok rfl) kX12_keeps_ok 83 6 (161, [some (.inr (.inr (71, 0))), some (.inl a1), some (.inl o1254), none, none], [], (mup (mup s1275 86 0 ((s1275 71 0 27).toNat) o1254) 89 0 ((s1275 71 0 27).toNat) a1)) (Ps := [0 ≤ (s1275 71 0 27) ∧ (s1275 71 0 27) < 30]) rfl (And.intro hc trivial) ?_
  refine m_blk C0 (pX12_ok rfl) kX12_keeps_ok 89 6 (171, [some (.inr (.inr (71, 0))), some (.inl a1), some (.inl o1254), none, none], [], (mup (mup (mup s1275 86 0 ((s1275 71 0 27).toNat) o1254) 89 0 ((s1275 71 0 27).toNat) a1) 71 0 27 (mw ((s1275 71 0 27) + 1)))) (Ps := []) rfl trivial ?_
  cases h
  exact m_vret C0 hFin (k_at kX12_keeps_ok 95 rfl)
